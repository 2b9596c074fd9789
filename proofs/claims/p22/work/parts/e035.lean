section
/-! readers: both sides (made by a program, mkfzz7.py) -/
/-- where it answers, the heap is as it was -/
def Pr {α : Type} (o : Option (α × px_H)) (ph : px_H) : Prop := ∀ v p, o = some (v, p) → p = ph
section PRR
variable {α β : Type} {ph : px_H}
theorem Pr_r {v : α} : Pr (some (v, ph)) ph := fun v p e => by cases e; rfl
theorem Pr_n : Pr (none : Option (α × px_H)) ph := fun v p e => by cases e
theorem Pr_z {x : Int32} : Pr (xz x ph) ph := fun _ _ e => (xz_some e).2.2
theorem Pr_s {o : Option β} {k : β → Option (α × px_H)} (h : ∀ t, Pr (k t) ph) : Pr (o.bind k) ph := fun v p e => by
  obtain ⟨x, _, e2⟩ := xs_some e
  exact h x v p e2
theorem Pr_x {o : Option (β × px_H)} {k : β → px_H → Option (α × px_H)} (h0 : Pr o ph) (h : ∀ t, Pr (k t ph) ph) : Pr (xb o k) ph := fun v p e => by
  obtain ⟨x, q, e1, e2⟩ := xb_some e
  rw [h0 x q e1] at e2
  exact h x v p e2
theorem Pr_i {P : Prop} [Decidable P] {a b : Option (α × px_H)} (h1 : P → Pr a ph) (h2 : ¬ P → Pr b ph) : Pr (if P then a else b) ph := by
  by_cases c : P
  · rw [if_pos c]
    exact h1 c
  · rw [if_neg c]
    exact h2 c
end PRR
section PRF
variable {F : Nat} {c : px_CT}
theorem pr_above {ph : px_H} {x y : Int64} : Pr (f_H_above F c x y ph) ph := by
  unfold f_H_above f_H_above_19
  repeat' (first | (with_reducible exact Pr_r) | (with_reducible exact Pr_n) | (with_reducible exact Pr_z) | (with_reducible refine Pr_i (fun _ => ?_) (fun _ => ?_)) | (with_reducible refine Pr_s (fun _ => ?_)))
theorem pr_rat {ph : px_H} {r : Nat} {x : Int32} : Pr (f_Row_at F c r x ph) ph := by
  unfold f_Row_at f_Row_at_25 f_Row_at_26
  repeat' (first | (with_reducible exact Pr_r) | (with_reducible exact Pr_n) | (with_reducible exact Pr_z) | (with_reducible refine Pr_i (fun _ => ?_) (fun _ => ?_)) | (with_reducible refine Pr_s (fun _ => ?_)))
theorem pr_rnum7 {ph : px_H} : ∀ (f : Nat) (a0 : Nat) (a1 : Int32) (a3 : Int64) (a5 : Int32), Pr (f_Row_num_7 F c f a0 a1 a3 a5 ph) ph := by
  intro f
  induction f with
  | zero =>
    intro a0 a1 a3 a5
    exact fun v p e => by first | cases e | (unfold f_Row_num_7 at e; cases e)
  | succ f ih =>
    intro a0 a1 a3 a5
    unfold f_Row_num_7 f_Row_num_33
    repeat' (first | (with_reducible exact ih _ _ _ _) | (with_reducible exact Pr_r) | (with_reducible exact Pr_n) | (with_reducible exact Pr_z) | (with_reducible refine Pr_i (fun _ => ?_) (fun _ => ?_)) | (with_reducible refine Pr_x pr_rat (fun _ => ?_)) | (with_reducible refine Pr_s (fun _ => ?_)))
theorem pr_rnum {ph : px_H} {r : Nat} {x y : Int32} : Pr (f_Row_num F c r x y ph) ph := pr_rnum7 F r x _ _
theorem pr_row2 {ph : px_H} : ∀ (f : Nat) (a0 : Nat) (a1 : Int64) (a3 : Int32), Pr (f_Memory_rowAt_2 F c f a0 a1 a3 ph) ph := by
  intro f
  induction f with
  | zero =>
    intro a0 a1 a3
    exact fun v p e => by first | cases e | (unfold f_Memory_rowAt_2 at e; cases e)
  | succ f ih =>
    intro a0 a1 a3
    unfold f_Memory_rowAt_2 f_Memory_rowAt_47 f_Memory_rowAt_39
    repeat' (first | (with_reducible exact ih _ _ _) | (with_reducible exact Pr_r) | (with_reducible exact Pr_n) | (with_reducible exact Pr_z) | (with_reducible refine Pr_i (fun _ => ?_) (fun _ => ?_)) | (with_reducible refine Pr_x pr_above (fun _ => ?_)) | (with_reducible refine Pr_s (fun _ => ?_)))
theorem pr_row {ph : px_H} {r : Nat} {x : Int64} : Pr (f_Memory_rowAt F c r x ph) ph := pr_row2 F r x _
theorem pr_mbyte {ph : px_H} {r : Nat} {x : Int64} : Pr (f_Memory_byteAt F c r x ph) ph := by
  unfold f_Memory_byteAt f_Memory_byteAt_55
  repeat' (first | (with_reducible exact Pr_r) | (with_reducible exact Pr_n) | (with_reducible exact Pr_z) | (with_reducible refine Pr_i (fun _ => ?_) (fun _ => ?_)) | (with_reducible refine Pr_x pr_row (fun _ => ?_)) | (with_reducible refine Pr_x pr_rat (fun _ => ?_)) | (with_reducible refine Pr_s (fun _ => ?_)))
theorem pr_peek {ph : px_H} {r : Nat} {x : Int64} : Pr (f_H_peek F c r x ph) ph := by
  unfold f_H_peek
  repeat' (first | (with_reducible exact Pr_r) | (with_reducible exact Pr_n) | (with_reducible exact Pr_z) | (with_reducible refine Pr_i (fun _ => ?_) (fun _ => ?_)) | (with_reducible refine Pr_x pr_mbyte (fun _ => ?_)) | (with_reducible refine Pr_s (fun _ => ?_)))
theorem pr_out {ph : px_H} {r : Nat} {x : Int32} : Pr (f_H_out F c r x ph) ph := by
  unfold f_H_out f_H_out_15
  repeat' (first | (with_reducible exact Pr_r) | (with_reducible exact Pr_n) | (with_reducible exact Pr_z) | (with_reducible refine Pr_i (fun _ => ?_) (fun _ => ?_)) | (with_reducible refine Pr_x pr_rnum (fun _ => ?_)) | (with_reducible refine Pr_s (fun _ => ?_)))
theorem pr_gout {ph : px_H} {r : Nat} {x : Int32} : Pr (g_H_out F c r x ph) ph := by
  unfold g_H_out g_H_out_15
  repeat' (first | (with_reducible exact Pr_r) | (with_reducible exact Pr_n) | (with_reducible exact Pr_z) | (with_reducible refine Pr_i (fun _ => ?_) (fun _ => ?_)) | (with_reducible refine Pr_x pr_rnum (fun _ => ?_)) | (with_reducible refine Pr_s (fun _ => ?_)))
theorem pr_stay4 {ph : px_H} : ∀ (f : Nat) (a0 : Nat) (a1 a2 : Int32), Pr (f_Link_countStaying_4 F c f a0 a1 a2 ph) ph := by
  intro f
  induction f with
  | zero =>
    intro a0 a1 a2
    exact fun v p e => by first | cases e | (unfold f_Link_countStaying_4 at e; cases e)
  | succ f ih =>
    intro a0 a1 a2
    unfold f_Link_countStaying_4 f_Link_countStaying_50 f_Link_countStaying_42
    repeat' (first | (with_reducible exact ih _ _ _) | (with_reducible exact Pr_r) | (with_reducible exact Pr_n) | (with_reducible exact Pr_z) | (with_reducible refine Pr_i (fun _ => ?_) (fun _ => ?_)) | (with_reducible refine Pr_s (fun _ => ?_)))
theorem pr_stay {ph : px_H} {r : Nat} : Pr (f_Link_countStaying F c r ph) ph := pr_stay4 F r _ _
theorem pr_segs4 {ph : px_H} : ∀ (f : Nat) (a0 : Nat) (a1 a2 : Int32), Pr (f_Layout_countSegments_4 F c f a0 a1 a2 ph) ph := by
  intro f
  induction f with
  | zero =>
    intro a0 a1 a2
    exact fun v p e => by first | cases e | (unfold f_Layout_countSegments_4 at e; cases e)
  | succ f ih =>
    intro a0 a1 a2
    unfold f_Layout_countSegments_4 f_Layout_countSegments_32 f_Layout_countSegments_24
    repeat' (first | (with_reducible exact ih _ _ _) | (with_reducible exact Pr_r) | (with_reducible exact Pr_n) | (with_reducible exact Pr_z) | (with_reducible refine Pr_i (fun _ => ?_) (fun _ => ?_)) | (with_reducible refine Pr_s (fun _ => ?_)))
theorem pr_segs {ph : px_H} {r : Nat} : Pr (f_Layout_countSegments F c r ph) ph := pr_segs4 F r _ _
theorem pr_look36 {ph : px_H} {r : Nat} {x y z : Int32} : Pr (f_H_lookAtLink_36 F c r x y z ph) ph := by
  unfold f_H_lookAtLink_36 f_H_lookAtLink_151 f_H_lookAtLink_180 f_H_lookAtLink_206 f_H_lookAtLink_222
  repeat' (first | (with_reducible exact Pr_r) | (with_reducible exact Pr_n) | (with_reducible exact Pr_z) | (with_reducible refine Pr_i (fun _ => ?_) (fun _ => ?_)) | (with_reducible refine Pr_x pr_stay (fun _ => ?_)) | (with_reducible refine Pr_x pr_segs (fun _ => ?_)) | (with_reducible refine Pr_s (fun _ => ?_)))
theorem pr_lookL {ph : px_H} {r : Nat} {x : Int32} : Pr (f_H_lookAtLink F c r x ph) ph := by
  unfold f_H_lookAtLink f_H_lookAtLink_15 f_H_lookAtLink_31
  repeat' (first | (with_reducible exact pr_look36) | (with_reducible exact Pr_r) | (with_reducible exact Pr_n) | (with_reducible exact Pr_z) | (with_reducible refine Pr_i (fun _ => ?_) (fun _ => ?_)) | (with_reducible refine Pr_s (fun _ => ?_)))
theorem pr_look {ph : px_H} {r : Nat} {x : Int32} : Pr (f_H_look F c r x ph) ph := by
  unfold f_H_look f_H_look_10
  repeat' (first | (with_reducible exact Pr_r) | (with_reducible exact Pr_n) | (with_reducible exact Pr_z) | (with_reducible refine Pr_i (fun _ => ?_) (fun _ => ?_)) | (with_reducible refine Pr_x pr_lookL (fun _ => ?_)) | (with_reducible refine Pr_s (fun _ => ?_)))
theorem pr_glook {ph : px_H} {r : Nat} {x : Int32} : Pr (g_H_look F c r x ph) ph := by
  unfold g_H_look g_H_look_10
  repeat' (first | (with_reducible exact Pr_r) | (with_reducible exact Pr_n) | (with_reducible exact Pr_z) | (with_reducible refine Pr_i (fun _ => ?_) (fun _ => ?_)) | (with_reducible refine Pr_x pr_lookL (fun _ => ?_)) | (with_reducible refine Pr_s (fun _ => ?_)))
end PRF
section ZLJ
variable {F : Nat} {c : px_CT} {sk : Nat → Nat × Nat × Nat} {L : Nat} {own : Nat → Nat × Nat} {τ : px_TT} {σ : px_S} {fs : List (Nat × (Nat → Nat))} {gs : List (List Nat × Int64)} {ws : List (List Nat)} {n : Nat} {b : Nat → Nat} {a : Int32} {Y : px_Y} {k N : Nat}
theorem Z_I {x : Int32} (hz : ZO sk L τ σ) : ZO sk L τ (sI σ 0 x) := by
  have kr := KRa_FR (FR_I σ 0 x) (by decide) (by decide) (by decide)
  exact ZO_R hz kr.1 kr.2.1 kr.2.2.1 (fun _ => kr.2.2.2)
/-- a reader of the class -/
theorem ZP {α : Type} {f : Option (α × px_H)} (hz : ZO sk L τ σ) (hR : RV σ fs gs ws n b a Y) (hC : CV sk L own τ fs gs ws n b a Y) (hf : Pr f (cH sk L τ)) : ∀ v sk' L' τ' own' fs gs ws n b a Y, f = some (v, cH sk' L' τ') → EX sk L sk' L' → CV sk' L' own' τ' fs gs ws n b a Y → ZO sk' L' τ' σ := fun v _ _ _ _ _ _ _ _ _ _ _ e e2 hC' => ZC_0 hz (RV13 hR) hC hC' e2 (hf v _ e).symm
theorem Z_peek {x : Int64} (hF : 65540 < F) (hz : ZO sk L τ σ) (hC : CV sk L own τ fs gs ws n b a Y) (hR : RV σ fs gs ws n b a Y) (hm : RMk sk L (k + 210)) (hN : n + (fs.map Prod.fst).sum ≤ N) : BTO (fun (v w : Int32) _ => v = w) (fun _ _ => False) sk L τ k N (f_H_peek F c 0 x (cH sk L τ)) none (fun h => f_M_peek F 1726 x (mh 1726 h σ)) := by
  obtain ⟨y, hy, rfl⟩ := wb_of x
  obtain ⟨R, q, z, b1, hM, hM2, _, hB⟩ := hz.1
  have hE : ∃ b2 b3, f_H_peek F c 0 (lN y) (cH sk L τ) = some (pekA R b2 y, cH sk L τ) ∧ (∀ h : px_H, 1726 ≤ h.length → f_M_peek F 1726 (lN y) (mh 1726 h σ) = some (pekA R b3 y, mh 1726 h (sI σ 0 (nI 0)))) ∧ pekA R b2 y = pekA R b3 y := by
    by_cases cR : R = []
    · exact ⟨fun _ => 0, fun _ => 0, k_peek (z := 0) hF hC.1 hC.2.1 hM.1 (fun w => absurd cR w) hy, fun h hl => qx_peek (z := 0) hl hF hM2 (fun w => absurd cR w) hy, rfl⟩
    · obtain ⟨z2, b2, z3, b3, c1, c2, c3, c4⟩ := hB cR
      exact ⟨b2, b3, k_peek hF hC.1 hC.2.1 hM.1 (fun _ => c1) hy, fun h hl => qx_peek hl hF hM2 (fun _ => ⟨c2, c3⟩) hy, pekA_c c4⟩
  obtain ⟨b2, b3, e1, e2, e3⟩ := hE
  refine ⟨fs, gs, ws, n, b, a, Y, hN, Or.inl ⟨_, sk, L, τ, own, e1, EX_refl, K26_refl τ, RMk_le hm (by omega), hC, fun h hl => ?_⟩⟩
  have f0 := FR_I σ 0 (nI 0)
  have kr := KRa_FR f0 (by decide) (by decide) (by decide)
  exact ⟨_, _, e2 h hl, RV_0 hR f0, e3, ZO_R hz kr.1 kr.2.1 kr.2.2.1 (fun _ => kr.2.2.2)⟩
theorem Z_out {x : Int32} (hF : 65540 < F) (hz : ZO sk L τ σ) (hC : CV sk L own τ fs gs ws n b a Y) (hR : RV σ fs gs ws n b a Y) (hm : RMk sk L (k + 210)) (hN : n + (fs.map Prod.fst).sum ≤ N) : BTO Rn0 (fun ci _ => ci = 15) sk L τ k N (f_H_out F c 0 x (cH sk L τ)) (g_H_out F c 0 x (cH sk L τ)) (fun h => f_M_out F 1726 x (mh 1726 h σ)) := by
  obtain ⟨j, j1, j2⟩ := hR.2.2.2.2.1.1
  exact Z_of (B_out hF hC hR hm hN) (ZP hz hR hC pr_out) (ZT0 hz hR hC (fun ci x e => pr_gout ci x e)) (fun h hl => KR_0 (sm_out hl (by omega) j1 j2 (FR_refl σ)))
theorem Z_look {x : Int32} (hF : 65540 < F) (hz : ZO sk L τ σ) (hC : CV sk L own τ fs gs ws n b a Y) (hR : RV σ fs gs ws n b a Y) (hm : RMk sk L (k + 210)) (hN : n + (fs.map Prod.fst).sum ≤ N) : BTO Rn0 (fun ci _ => ci = 13) sk L τ k N (f_H_look F c 0 x (cH sk L τ)) (g_H_look F c 0 x (cH sk L τ)) (fun h => f_M_look F 1726 x (mh 1726 h σ)) := Z_of (B_look hF hC hR hm hN) (ZP hz hR hC pr_look) (ZT0 hz hR hC (fun ci x e => pr_glook ci x e)) (fun h hl => KR_0 (sm_look hl (FR_refl σ)))
theorem Z_sum {x y z : Int32} (hF : 65540 < F) (hz : ZO sk L τ σ) (hC : CV sk L own τ fs gs ws n b a Y) (hR : RV σ fs gs ws n b a Y) (hm : RMk sk L (k + 210)) (hN : n + (fs.map Prod.fst).sum ≤ N) : BTO RnJ (fun ci σ => ci = 15 ∧ gI σ 0 = nI 1) sk L τ k N (f_H_sum F c 0 x y z (cH sk L τ)) (g_H_sum F c 0 x y z (cH sk L τ)) (fun h => f_M_sum F 1726 x y z (mh 1726 h σ)) := by
  have bad : g_H_sum F c 0 x y z (cH sk L τ) = some (15, cH sk L τ) → ((∀ q o n b, ¬ MBR fs x y q o n b false) ∨ z < 0 ∨ ¬ z ≤ nI 5) → BTO RnJ (fun ci σ => ci = 15 ∧ gI σ 0 = nI 1) sk L τ k N (f_H_sum F c 0 x y z (cH sk L τ)) (g_H_sum F c 0 x y z (cH sk L τ)) (fun h => f_M_sum F 1726 x y z (mh 1726 h σ)) := fun hg hw =>
    ⟨fs, gs, ws, n, b, a, Y, hN, Or.inr ⟨15, τ, own, hg, K26_refl τ, RMk_le hm (by omega), hC, fun h hl => ⟨_, _, (q_sum hl (by omega) hR.2.1).2 hw, RV_0 hR (FR_I _ _ _), ⟨rfl, rfl⟩, Z_I hz⟩⟩⟩
  rcases k_objAt (F := F) (c := c) (i := x) (k := y) hC with ⟨q, o, n', b', hM, e⟩ | ⟨hM, e⟩
  · by_cases c1 : z < 0
    · refine bad ?_ (Or.inr (Or.inl c1))
      unfold g_H_sum g_H_sum_22
      rw [c_o (G0 hC.1), bs, e, xb_mk]
      dsimp only
      rw [if_pos c1]
    · by_cases c2 : z ≤ nI 5
      · have eC := k_Hsum (F := F) (c := c) hF hC hM e c1 c2
        exact ⟨fs, gs, ws, n, b, a, Y, hN, Or.inl ⟨_, sk, L, τ, own, eC, EX_refl, K26_refl τ, RMk_le hm (by omega), hC, fun h hl => ⟨_, _, (q_sum hl (by omega) hR.2.1).1 q o n' b' hM c1 c2, RV_0 hR (FR_I _ _ _), ⟨rfl, rfl⟩, Z_I hz⟩⟩⟩
      · refine bad ?_ (Or.inr (Or.inr c2))
        unfold g_H_sum g_H_sum_22
        rw [c_o (G0 hC.1), bs, e, xb_mk]
        dsimp only
        rw [if_neg c1, if_neg c2]
  · refine bad ?_ (Or.inl hM)
    unfold g_H_sum g_H_sum_22
    rw [c_o (G0 hC.1), bs, e, xb_mk]
theorem Z_taken {x y : Int32} (hz : ZO sk L τ σ) (hC : CV sk L own τ fs gs ws n b a Y) (hR : RV σ fs gs ws n b a Y) (hm : RMk sk L (k + 210)) (hN : n + (fs.map Prod.fst).sum ≤ N) : BTO RnI (fun ci σ => ci = 15 ∧ gI σ 0 = nI 1) sk L τ k N (f_H_taken F c 0 x y (cH sk L τ)) (g_H_taken F c 0 x y (cH sk L τ)) (fun h => f_M_taken F 1726 x y (mh 1726 h σ)) := by
  rcases k_memAt (F := F) (c := c) (i := x) (k := y) hC with ⟨q, o, n', b', z, hM, e⟩ | ⟨hM, e⟩
  · have hob : obAt fs q = some (o, n', b', z) := by
      obtain ⟨_, _, _, _, _, _, _, h⟩ := hM
      exact h
    have h64 := (CF_ob hC.2.2.2.1 hob).1
    have h15 := ((CV_X hC).1 q h64).1
    have eC : f_H_taken F c 0 x y (cH sk L τ) = some (bI (Y.1.1 q), cH sk L τ) := by
      unfold f_H_taken
      rw [c_o (G0 hC.1), bs, e, xb_mk]
      dsimp only
      rw [C7g15 (G_of hC.1 h64), bs, h15]
      exact xz_b _ _
    exact ⟨fs, gs, ws, n, b, a, Y, hN, Or.inl ⟨_, sk, L, τ, own, eC, EX_refl, K26_refl τ, RMk_le hm (by omega), hC, fun h hl => ⟨_, _, (q_taken hl hR.2.1 (RV_X hR)).1 q o n' b' z hM, RV_0 hR (FR_I _ _ _), ⟨rfl, rfl⟩, Z_I hz⟩⟩⟩
  · refine ⟨fs, gs, ws, n, b, a, Y, hN, Or.inr ⟨15, τ, own, ?_, K26_refl τ, RMk_le hm (by omega), hC, fun h hl => ⟨_, _, (q_taken hl hR.2.1 (RV_X hR)).2 hM, RV_0 hR (FR_I _ _ _), ⟨rfl, rfl⟩, Z_I hz⟩⟩⟩
    unfold g_H_taken
    rw [c_o (G0 hC.1), bs, e, xb_mk]
theorem Z_section {x y : Int32} (hz : ZO sk L τ σ) (hC : CV sk L own τ fs gs ws n b a Y) (hR : RV σ fs gs ws n b a Y) (hm : RMk sk L (k + 210)) (hN : n + (fs.map Prod.fst).sum ≤ N) : BTO RnI (fun ci σ => (ci = 14 ∧ gI σ 0 = nI 1) ∨ (ci = 15 ∧ gI σ 0 = nI 2)) sk L τ k N (f_H_section F c 0 x y (cH sk L τ)) (g_H_section F c 0 x y (cH sk L τ)) (fun h => f_M_section F 1726 x y (mh 1726 h σ)) := by
  have o0 := G0 hC.1
  have r11 := C0r11 (τ := τ) o0 (GR_r (v := 147) hC.2.1 (by decide))
  have r13 := C0r13 (τ := τ) o0 (GR_r (v := 1700) hC.2.1 (by decide))
  have g11 := C2g11 (τ := τ) (a := 1700) (GS_o hC.1 (by decide) (by decide))
  have g18 := C3g18 (τ := τ) (G147 hC.1)
  have o17 : ob sk L 2 1700 := GS_o hC.1 (by decide) (by decide)
  have ea : fI τ 147 18 = a := hC.2.2.2.2.2.2.2.2.2.2
  have h13 : gI σ 13 = a := hR.2.2.2.2.2.2.2.2.1
  by_cases c0 : a = 0
  · obtain ⟨⟨e11, hlen, hps⟩, _⟩ := (CV_X hC).2 c0
    have bad : g_H_section F c 0 x y (cH sk L τ) = some (15, cH sk L τ) → (x < 0 ∨ nI Y.2.2.1.length ≤ x ∨ y < 0 ∨ ¬ y ≤ nI 4) → BTO RnI (fun ci σ => (ci = 14 ∧ gI σ 0 = nI 1) ∨ (ci = 15 ∧ gI σ 0 = nI 2)) sk L τ k N (f_H_section F c 0 x y (cH sk L τ)) (g_H_section F c 0 x y (cH sk L τ)) (fun h => f_M_section F 1726 x y (mh 1726 h σ)) := fun hg hb =>
      ⟨fs, gs, ws, n, b, a, Y, hN, Or.inr ⟨15, τ, own, hg, K26_refl τ, RMk_le hm (by omega), hC, fun h hl => ⟨_, _, (q_section hl h13 (RV_X hR) hlen).2.1 c0 hb, RV_0 hR (FR_I _ _ _), Or.inr ⟨rfl, rfl⟩, Z_I hz⟩⟩⟩
    by_cases c1 : x < 0
    · exact bad (by unfold g_H_section g_H_section_44; rw [r11, bs, g18, bs, ea, if_pos c0, if_pos c1]) (Or.inl c1)
    · by_cases c2 : nI Y.2.2.1.length ≤ x
      · exact bad (by unfold g_H_section g_H_section_44; rw [r11, bs, g18, bs, ea, if_pos c0, if_neg c1, r13, bs, g11, bs, e11, if_pos c2]) (Or.inr (Or.inl c2))
      · by_cases c3 : y < 0
        · exact bad (by unfold g_H_section g_H_section_44; rw [r11, bs, g18, bs, ea, if_pos c0, if_neg c1, r13, bs, g11, bs, e11, if_neg c2, if_pos c3]) (Or.inr (Or.inr (Or.inl c3)))
        · by_cases c4 : y ≤ nI 4
          · obtain ⟨i, hi, ex⟩ := ixG c1 c2 (Nat.le_refl _)
            have hp : Y.2.2.1[i]? = some Y.2.2.1[i] := List.getElem?_eq_getElem hi
            obtain ⟨w, hw, ey⟩ : ∃ w, w ≤ 4 ∧ y = nI w := by
              obtain ⟨w, hw, e⟩ := nI_of c3
              refine ⟨w, ?_, e⟩
              rw [e] at c4
              exact (nI_leI hw (by decide)).mp c4
            obtain ⟨x', x1, _, e6, f1, f2, f3, f4, f5, _⟩ := z_part (F := F) (c := c) hC c0 hp
            have oP := G_part hC.1 x1
            have eC : f_H_section F c 0 x y (cH sk L τ) = some (nI (if w = 0 then Y.2.2.1[i].1 else if w = 1 then Y.2.2.1[i].2.1 else if w = 2 then Y.2.2.1[i].2.2.1 else if w = 3 then Y.2.2.1[i].2.2.2.1 else Y.2.2.1[i].2.2.2.2.1), cH sk L τ) := by
              unfold f_H_section
              rw [r11, bs, g18, bs, ea, if_pos c0, if_neg c1, r13, bs, g11, bs, e11, if_neg c2, if_neg c3, if_pos c4, bs, c_o o17, bs, ex, e6, xb_mk, ey]
              have hw' : w = 0 ∨ w = 1 ∨ w = 2 ∨ w = 3 ∨ w = 4 := by omega
              rcases hw' with rfl | rfl | rfl | rfl | rfl
              · rw [if_pos rfl, bs, C8g1 oP, bs, f1]
                rfl
              · rw [if_neg (show ¬ nI 1 = nI 0 by decide), if_pos rfl, bs, C8g2 oP, bs, f2]
                rfl
              · rw [if_neg (show ¬ nI 2 = nI 0 by decide), if_neg (show ¬ nI 2 = nI 1 by decide), if_pos rfl, bs, C8g3 oP, bs, f3]
                rfl
              · rw [if_neg (show ¬ nI 3 = nI 0 by decide), if_neg (show ¬ nI 3 = nI 1 by decide), if_neg (show ¬ nI 3 = nI 2 by decide), if_pos rfl, bs, C8g4 oP, bs, f4]
                rfl
              · rw [if_neg (show ¬ nI 4 = nI 0 by decide), if_neg (show ¬ nI 4 = nI 1 by decide), if_neg (show ¬ nI 4 = nI 2 by decide), if_neg (show ¬ nI 4 = nI 3 by decide), bs, C8g5 oP, bs, f5]
                rfl
            exact ⟨fs, gs, ws, n, b, a, Y, hN, Or.inl ⟨_, sk, L, τ, own, eC, EX_refl, K26_refl τ, RMk_le hm (by omega), hC, fun h hl => ⟨_, _, (q_section hl h13 (RV_X hR) hlen).2.2 c0 i _ hp ex w hw ey, RV_0 hR (FR_I _ _ _), ⟨rfl, rfl⟩, Z_I hz⟩⟩⟩
          · exact bad (by unfold g_H_section g_H_section_44; rw [r11, bs, g18, bs, ea, if_pos c0, if_neg c1, r13, bs, g11, bs, e11, if_neg c2, if_neg c3, if_neg c4]) (Or.inr (Or.inr (Or.inr c4)))
  · have w0 : ∀ (h : px_H), 1726 ≤ h.length → f_M_section F 1726 x y (mh 1726 h σ) = some (nI 0, mh 1726 h (sI σ 0 (nI 1))) := fun h hl => q_sec0 hl h13 c0
    exact ⟨fs, gs, ws, n, b, a, Y, hN, Or.inr ⟨14, τ, own, by unfold g_H_section; rw [r11, bs, g18, bs, ea, if_neg c0], K26_refl τ, RMk_le hm (by omega), hC, fun h hl => ⟨_, _, w0 h hl, RV_0 hR (FR_I _ _ _), Or.inl ⟨rfl, rfl⟩, Z_I hz⟩⟩⟩
theorem Z_place {x : Int32} (hz : ZO sk L τ σ) (hC : CV sk L own τ fs gs ws n b a Y) (hR : RV σ fs gs ws n b a Y) (hm : RMk sk L (k + 210)) (hN : n + (fs.map Prod.fst).sum ≤ N) : BTO RnJ (fun ci σ => (ci = 14 ∧ gI σ 0 = nI 1) ∨ (ci = 15 ∧ gI σ 0 = nI 2)) sk L τ k N (f_H_place F c 0 x (cH sk L τ)) (g_H_place F c 0 x (cH sk L τ)) (fun h => f_M_place F 1726 x (mh 1726 h σ)) := by
  have o0 := G0 hC.1
  have r11 := C0r11 (τ := τ) o0 (GR_r (v := 147) hC.2.1 (by decide))
  have r13 := C0r13 (τ := τ) o0 (GR_r (v := 1700) hC.2.1 (by decide))
  have g11 := C2g11 (τ := τ) (a := 1700) (GS_o hC.1 (by decide) (by decide))
  have g18 := C3g18 (τ := τ) (G147 hC.1)
  have o17 : ob sk L 2 1700 := GS_o hC.1 (by decide) (by decide)
  have ea : fI τ 147 18 = a := hC.2.2.2.2.2.2.2.2.2.2
  have h13 : gI σ 13 = a := hR.2.2.2.2.2.2.2.2.1
  by_cases c0 : a = 0
  · obtain ⟨⟨e11, hlen, hps⟩, _⟩ := (CV_X hC).2 c0
    have bad : g_H_place F c 0 x (cH sk L τ) = some (15, cH sk L τ) → (x < 0 ∨ ¬ x < nI Y.2.2.1.length) → BTO RnJ (fun ci σ => (ci = 14 ∧ gI σ 0 = nI 1) ∨ (ci = 15 ∧ gI σ 0 = nI 2)) sk L τ k N (f_H_place F c 0 x (cH sk L τ)) (g_H_place F c 0 x (cH sk L τ)) (fun h => f_M_place F 1726 x (mh 1726 h σ)) := fun hg hb =>
      ⟨fs, gs, ws, n, b, a, Y, hN, Or.inr ⟨15, τ, own, hg, K26_refl τ, RMk_le hm (by omega), hC, fun h hl => ⟨_, _, (q_place hl h13 (RV_X hR) hlen).2.1 c0 hb, RV_0 hR (FR_I _ _ _), Or.inr ⟨rfl, rfl⟩, Z_I hz⟩⟩⟩
    by_cases c1 : x < 0
    · exact bad (by unfold g_H_place g_H_place_35; rw [r11, bs, g18, bs, ea, if_pos c0, if_pos c1]) (Or.inl c1)
    · by_cases c2 : x < nI Y.2.2.1.length
      · obtain ⟨i, hi, ex⟩ := ixG (n := Y.2.2.1.length) c1 (Int32.not_le.mpr c2) (Nat.le_refl _)
        have hp : Y.2.2.1[i]? = some Y.2.2.1[i] := List.getElem?_eq_getElem hi
        obtain ⟨x', x1, _, e6, _, _, _, _, _, f6⟩ := z_part (F := F) (c := c) hC c0 hp
        have oP := G_part hC.1 x1
        have eC : f_H_place F c 0 x (cH sk L τ) = some (lN Y.2.2.1[i].2.2.2.2.2, cH sk L τ) := by
          unfold f_H_place
          rw [r11, bs, g18, bs, ea, if_pos c0, if_neg c1, r13, bs, g11, bs, e11, if_pos c2, bs, c_o o17, bs, ex, e6, xb_mk, bs, C8g11 oP, bs, f6]
        exact ⟨fs, gs, ws, n, b, a, Y, hN, Or.inl ⟨_, sk, L, τ, own, eC, EX_refl, K26_refl τ, RMk_le hm (by omega), hC, fun h hl => ⟨_, _, (q_place hl h13 (RV_X hR) hlen).2.2 c0 i _ hp ex, RV_0 hR (FR_I _ _ _), ⟨rfl, rfl⟩, Z_I hz⟩⟩⟩
      · exact bad (by unfold g_H_place g_H_place_35; rw [r11, bs, g18, bs, ea, if_pos c0, if_neg c1, r13, bs, g11, bs, e11, if_neg c2]) (Or.inr c2)
  · have w0 : ∀ (h : px_H), 1726 ≤ h.length → f_M_place F 1726 x (mh 1726 h σ) = some (lN 0, mh 1726 h (sI σ 0 (nI 1))) := fun h hl => q_pla0 hl h13 c0
    exact ⟨fs, gs, ws, n, b, a, Y, hN, Or.inr ⟨14, τ, own, by unfold g_H_place; rw [r11, bs, g18, bs, ea, if_neg c0], K26_refl τ, RMk_le hm (by omega), hC, fun h hl => ⟨_, _, w0 h hl, RV_0 hR (FR_I _ _ _), Or.inl ⟨rfl, rfl⟩, Z_I hz⟩⟩⟩
end ZLJ
end
section
/-! cause: both sides (made by a program, mkfzz8.py) -/
section RCX
variable {F m : Nat} {h : px_H} {σ : px_S} {fs : px_FS} {a : Int32} {Y : px_Y}
theorem q_causeX {a1 a2 : Int32} (hm : m ≤ h.length) (hF : 20 < F) (hr : RF σ fs) (hX : RXo σ fs a Y) (ho : OUo σ) : (∀ q o n b z, MBR fs a1 a2 q o n b z → (Y.2.1 q = none → f_M_cause F m a1 a2 (mh m h σ) = some (nI 0, mh m h (sI σ 0 (nI 0)))) ∧ ∀ w, Y.1.1 q = true → Y.2.1 q = some w → ∃ σ', f_M_cause F m a1 a2 (mh m h σ) = some (nI w.length, mh m h σ') ∧ gI σ' 0 = nI 0 ∧ CI σ σ' ∧ gI σ' 4 = nI w.length) ∧ ((∀ q o n b z, ¬ MBR fs a1 a2 q o n b z) → f_M_cause F m a1 a2 (mh m h σ) = some (nI 0, mh m h (sI σ 0 (nI 1)))) := by
  have h8 := hr.2.1
  have th1 : f_M_throwing F m (nI 1) (nI 0) (mh m h σ) = some (nI 1, mh m h (sI σ 0 (nI 1))) := q_throwing hm true false
  have th0 : f_M_throwing F m (nI 0) (nI 0) (mh m h σ) = some (nI 0, mh m h (sI σ 0 (nI 0))) := q_throwing hm false false
  have bad : f_M_cause_43 F m a1 a2 m (mh m h σ) = some (nI 0, mh m h (sI σ 0 (nI 1))) := by
    unfold f_M_cause_43 f_M_cause_48
    rw [e_o hm, bs, th1, xb_mk, if_neg (by decide)]
  rcases MBR_c (a1 := a1) (a2 := a2) hr with ⟨hc, hM⟩ | ⟨i, k, l, ⟨c1, c2, c3⟩, hi, e1, e2, hk, y1, hl8, hw⟩
  · refine ⟨fun q o n b z w => absurd w (hM q o n b z), fun _ => ?_⟩
    unfold f_M_cause
    rcases hc with c1 | ⟨c1, c2⟩ | ⟨c1, c2, c3⟩
    · rw [if_pos c1, bad]
    · rw [if_neg c1, Mg5 hm, bs, hr.1, if_pos c2, bad]
    · rw [if_neg c1, Mg5 hm, bs, hr.1, if_neg c2, if_pos c3, bad]
  · have head : f_M_cause F m a1 a2 (mh m h σ) = if a2 < nI l then f_M_cause_48 F m a1 a2 m (nI 0) (mh m h σ) else f_M_cause_43 F m a1 a2 m (mh m h σ) := by
      have a8 : xaI (mh m h σ) 1 (m + 5) a1 = some (gA σ 8 i) := by rw [e1]; exact Ma8 hm (by omega)
      unfold f_M_cause f_M_cause_39
      rw [if_neg c1, Mg5 hm, bs, hr.1, if_neg c2, if_neg c3, Mr8 hm, bs, if_neg c1, bs, if_pos (Int32.not_le.mp c2), a8, bs, y1]
    rcases hw with ⟨hkl, o0, n0, b0, z0, hM0⟩ | ⟨hkl, hM⟩
    · refine ⟨fun q o n b z hM => ?_, fun w => absurd hM0 (w _ _ _ _ _)⟩
      have eq := MBR_q h8 hM e1 e2 (by omega) hk
      subst eq
      obtain ⟨⟨_, nms, hn, hx⟩, _⟩ := hX
      obtain ⟨x, y, x1, x2, x3, x4⟩ := hx (8 * i + k) (by omega)
      have hq : 8 * i + k < 64 := by omega
      rw [show (8 * i + k) / 8 = i by omega] at x1
      rw [head, if_pos (by rw [e2]; exact nI_lt hkl (by omega))]
      unfold f_M_cause_48 f_M_cause_91
      rw [e_o hm, bs, th0, xb_mk, if_pos (show (nI 0 : Int32) = 0 from rfl), Mr19 hm, bs, e1, e2, Ma19 hm (by omega), bs, gA_sI, x1, ix8, Mr18 hm, bs, Ma18 hm hq, bs, gA_sI, x2, Mr40 hm, bs, Ma40 hm hq, bs, gA_sI]
      by_cases ct : Y.1.1 (8 * i + k) = true
      · rw [ct] at x3
        rw [Bool.and_eq_true] at x3
        obtain ⟨rfl, rfl⟩ := x3
        rw [if_neg (show ¬ bI true = 0 by decide), if_neg (show ¬ bI true = 0 by decide)]
        rcases x4 ct with ⟨y1', y2'⟩ | ⟨j, w, y1', y2', y3'⟩
        · rw [y2', if_neg (by decide)]
          exact ⟨fun _ => rfl, fun w _ e => by rw [y1'] at e; cases e⟩
        · obtain ⟨z1, z2, z3⟩ := hn.2.2 j w y2'
          have hj : j < nms.length := (List.getElem?_eq_some_iff.mp y2').1
          have hl := hn.2.1
          refine ⟨fun e => (by rw [y1'] at e; cases e), fun w' _ e => ?_⟩
          have ew : w = w' := Option.some.inj (y1'.symm.trans e)
          subst ew
          obtain ⟨σ', e, g1, g2, g3, g4, g5⟩ := q_say (F := F) (h := h) (σ := sI σ 0 (nI 0)) (pa := m + 13) (ks := 21) (M := 81920) (p := 20 * j) (w := w) hm hF (fun σ i hi => Ma21 hm hi) (by decide) z1 (fun t y hy => z3 t y hy) (by have := z1.1; omega) ho.2
          refine ⟨σ', ?_, (g2 0 (by decide)).trans (by rw [gI_sI, if_pos rfl]), ⟨⟨fun k hk => ?_, fun k _ => g3 k, fun k hk => ?_, fun k _ => g5 k⟩, ⟨_, g1.2.1, g1.1⟩, g1.2.2.1⟩, g1.1⟩
          · rw [y3', if_pos (nI_0le (by omega)), Mr21 hm, bs, bs, Ma40 hm hq, bs, gA_sI, y3', Mr22 hm, bs, bs, Ma40 hm hq, bs, gA_sI, y3', Ma22 hm (by omega), bs, gA_sI, z2, show nI 20 * nI j = nI (20 * j) from (Int32.ofNat_mul 20 j).symm, e_o hm, bs, e, xb_mk, Mg4 hm, bs, g1.1]
          · simp only [List.mem_cons, List.not_mem_nil, or_false, not_or] at hk
            rw [g2 k hk.2, gI_sI, if_neg hk.1]
          · simp only [List.mem_cons, List.not_mem_nil, or_false] at hk
            rw [g4 k hk, gA_sI]
      · have ct' := Bool.eq_false_iff.mpr ct
        refine ⟨fun _ => ?_, fun w e => absurd e ct⟩
        rw [ct'] at x3
        cases x with
        | false => rw [if_pos (show bI false = 0 from rfl)]
        | true =>
          rw [Bool.true_and] at x3
          rw [if_neg (show ¬ bI true = 0 by decide), x3, if_pos (show bI false = 0 from rfl)]
    · refine ⟨fun q o n b z w => absurd w (hM q o n b z), fun _ => ?_⟩
      rw [head, if_neg (by rw [e2]; exact nI_nlt hkl hk), bad]
end RCX
section ZLK
variable {F : Nat} {c : px_CT} {sk : Nat → Nat × Nat × Nat} {L : Nat} {own : Nat → Nat × Nat} {τ τ' : px_TT} {σ σ' : px_S} {fs : List (Nat × (Nat → Nat))} {gs : List (List Nat × Int64)} {ws : List (List Nat)} {n : Nat} {b : Nat → Nat} {a : Int32} {Y : px_Y} {k N : Nat}
theorem ZF_R (h : ZF τ σ) (kf : KRf σ σ') : ZF τ σ' := by
  obtain ⟨⟨en, l, fe, a0, a1, a2, a3, a4, a5⟩, h42, nD, c1, c2, c3, c4, c5⟩ := h
  obtain ⟨r1, r2, r3, r4⟩ := kf
  refine ⟨⟨en, l, fe, a0, a1, r1.trans a2, a3, a4, by rw [r2]; exact a5⟩, fun k => by rw [r2]; exact h42 k, nD, c1, c2, r3.trans c3, c4, fun i d hi hd h4 => ?_⟩
  rw [(r4 d h4).2]
  exact c5 i d hi ((r4 i (by omega)).1.symm.trans hd) h4
theorem ZM_R (h : ZM sk L τ σ) (km : KRm σ σ') : ZM sk L τ σ' := by
  obtain ⟨R', q', z', b', m1, m2, m3⟩ := h
  exact ⟨R', q', z', b', m1, RMr_K m2 km, RMn_K m3.1 km, MBy_R m3.2 km.1.2⟩
/-- a call that leaves a short OUT -/
theorem ZW {ro w j : Nat} (hz : ZO sk L τ σ) (hC : CV sk L own τ fs gs ws n b a Y) (hI : SI none sk L τ τ') (hk : KOm τ τ') (f : FR [0, 4] [] [3] [] σ σ') (h1 : fN τ' 0 1 = some ro) (h2 : fI τ' ro 1 = nI w) (hw : w < 64) (h3 : gI σ' 4 = nI j) (hj : j < 64) : ZO sk L τ' σ' := by
  have C2 := CV_SI hC hI
  exact ⟨ZM_R (ZM_K hz.1 C2.1 hk) (KRm_FR f (by decide) (by decide) (by decide)), ZU_e C2 h1 h2 hw h3 hj, fun w => ZF_R (ZF_K (hz.2.2 ((f.1 13 (by decide)).symm.trans w)) (KOf_SI hC hI)) (KRf_FR f (by decide) (by decide))⟩
theorem Z_cause {x y : Int32} (hF : 65540 < F) (hz : ZO sk L τ σ) (hC : CV sk L own τ fs gs ws n b a Y) (hR : RV σ fs gs ws n b a Y) (hm : RMk sk L (k + 210)) (hN : n + (fs.map Prod.fst).sum ≤ N) : BTO RnI (fun ci σ => ci = 15 ∧ gI σ 0 = nI 1) sk L τ k N (f_H_cause F c 0 x y (cH sk L τ)) (g_H_cause F c 0 x y (cH sk L τ)) (fun h => f_M_cause F 1726 x y (mh 1726 h σ)) := by
  have o0 := G0 hC.1
  rcases k_memAt (F := F) (c := c) (i := x) (k := y) hC with ⟨q, o, n', b', z, hM, e⟩ | ⟨hM, e⟩
  · have hob : obAt fs q = some (o, n', b', z) := by
      obtain ⟨_, _, _, _, _, _, _, h⟩ := hM
      exact h
    have h64 := (CF_ob hC.2.2.2.1 hob).1
    have oq := G_of hC.1 h64
    obtain ⟨h15, h16, h17, _⟩ := (CV_X hC).1 q h64
    cases ec : Y.2.1 q with
    | none =>
      have eC : f_H_cause F c 0 x y (cH sk L τ) = some (nI 0, cH sk L τ) := by
        unfold f_H_cause
        rw [c_o o0, bs, e, xb_mk]
        dsimp only
        rw [C7g16 oq, bs, h16 ec, if_pos (show (nI 0 : Int32) = 0 from rfl)]
      exact ⟨fs, gs, ws, n, b, a, Y, hN, Or.inl ⟨_, sk, L, τ, own, eC, EX_refl, K26_refl τ, RMk_le hm (by omega), hC, fun h hl => ⟨_, _, ((q_cause hl (by omega) hR.2.1 (RV_X hR) hR.2.2.2.2.1).1 q o n' b' z hM).1 ec, RV_0 hR (FR_I _ _ _), ⟨rfl, rfl⟩, Z_I hz⟩⟩⟩
    | some w =>
      obtain ⟨ht, o2, n2, b2, j, y1, y2, y3, y4, y5, y6⟩ := h17 w ec
      have hM64 : oM b2 ≤ 64 := by
        obtain ⟨_, _, e5, _, _, hd⟩ := CF_ob hC.2.2.2.1 y1
        have w := (hd rfl).2.2
        rw [e5] at w
        exact w2_M (eObj_0 w).1
      obtain ⟨P, τ1, k1, k2, k3, k4, k5⟩ := z_name6 (F := F) (c := c) hF hC y1 y2 y3 y4
      rw [y6] at k4
      have hwl : w.length = yL b2 j := by rw [← y6]; unfold yT; rw [tk_len]
      have i1 : SI none sk L τ τ1 := SI_N (SI_self hC) k3 (Or.inl rfl)
      have hR1 := GR_Z hC.2.1 i1.1
      obtain ⟨ro, A, hT, er⟩ := CV_ro hC
      have er1 : fN τ1 0 1 = some ro := (k3.2.2.1 0 1).trans er
      have hne : 146 ≠ ro := by unfold TRw at hT; omega
      have orr := (SI_row i1 hT).1
      obtain ⟨_, τ2, e2, _, i2⟩ := sz_clear (F := F) (c := c) i1 (fun k => k3.2.2.1 0 k) hT
      have er2 : fN τ2 0 1 = some ro := (i2.2.2 1).trans er
      have hR2 := GR_Z hC.2.1 i2.1.1
      have e3w : fI τ2 146 3 = nI w.length := by
        have w2 := (k_clearZ (F := F) (c := c) (SI_row i1 hT))
        obtain ⟨τ2', e2', _, f2', _⟩ := w2
        have eh : cH sk L τ2 = cH sk L τ2' := by
          rw [e2] at e2'
          exact (Prod.mk.inj (Option.some.inj e2')).2
        have r1 := C5g3 (τ := τ2) (G146 hC.1)
        have r2 := C5g3 (τ := τ2') (G146 hC.1)
        rw [eh] at r1
        have r3 : fI τ2' 146 3 = fI τ2 146 3 := Option.some.inj (r2.symm.trans r1)
        rw [← r3, f2'.1 146 3 (Or.inl hne)]
        exact k4.2.2.2
      obtain ⟨_, τ3, e4, _, i3⟩ := sz_wto (F := F) (c := c) hF hT (G146 hC.1) hne (show w.length ≤ 24 by omega) e3w i2
      have er3 : fN τ3 0 1 = some ro := (i3.2.2 1).trans er
      have hsz : fI τ3 ro 1 = nI w.length := by
        have := (i3.2.1.1 (by omega)).1
        rw [Nat.zero_add] at this
        exact this
      have eC : f_H_cause F c 0 x y (cH sk L τ) = some (nI w.length, cH sk L τ3) := by
        unfold f_H_cause
        rw [c_o o0, bs, e, xb_mk]
        dsimp only
        rw [C7g16 oq, bs, y5, if_neg (nI_nz (by omega) (by omega)), C0r10 o0 (R0_10 hC.2.1), bs, C0r3 o0 (R0_3 hC.2.1), bs, bs, c_o oq, bs, k1, xb_mk, c_o (G146 hC.1), bs, k2, xb_mk, C0r1 o0 er1, bs, c_o orr, bs, e2, xb_mk, C0r10 o0 (R0_10 hR2), bs, C0r1 o0 er2, bs, c_o (G146 hC.1), bs, e4, xb_mk, C0r1 o0 er3, bs, C10g1 orr, bs, hsz]
      refine ⟨fs, gs, ws, n, b, a, Y, hN, Or.inl ⟨_, sk, L, τ3, own, eC, EX_refl, K26_Z i3.1.1, RMk_le hm (by omega), CV_SI hC i3.1, fun h hl => ?_⟩⟩
      obtain ⟨σ', e5, e6, ⟨f, ho⟩, e7⟩ := ((q_causeX (F := F) hl (by omega) hR.2.1 (RV_X hR) hR.2.2.2.2.1).1 q o n' b' z hM).2 w ht ec
      refine ⟨_, σ', e5, RV_out hR (FR_mono f (by decide) (by decide) (by decide) (by decide)) ho, ⟨rfl, e6⟩, ?_⟩
      have kJ : KOm τ τ3 := by
        rcases jsf_Hcause (F := F) (c := c) (i := x) (k := y) (CV_S4 hC) hF (SJ_of (SI_self hC) MEs_refl OUs_refl) with e' | ⟨v4, τ4, e4', _, hJ⟩
        · rw [e] at e'
          cases e'
        · have C4 := CV_SI hC (SJ_I hJ)
          have C3 := CV_SI hC i3.1
          exact KOm_tr (KOm_SJ hJ) (KOm_H C4.1 C3.1 C4.2.1 C3.2.1 (out_eq e4' eC).2)
      exact ZW hz hC i3.1 kJ f er3 hsz (by omega) e7 (by omega)
  · refine ⟨fs, gs, ws, n, b, a, Y, hN, Or.inr ⟨15, τ, own, ?_, K26_refl τ, RMk_le hm (by omega), hC, fun h hl => ⟨_, _, (q_cause hl (by omega) hR.2.1 (RV_X hR) hR.2.2.2.2.1).2 hM, RV_0 hR (FR_I _ _ _), ⟨rfl, rfl⟩, Z_I hz⟩⟩⟩
    unfold g_H_cause
    rw [c_o o0, bs, e, xb_mk]
end ZLK
end
section
/-! list: both sides (made by a program, mkfzz9.py) -/
section ZLL
variable {F : Nat} {c : px_CT} {sk : Nat → Nat × Nat × Nat} {L : Nat} {own : Nat → Nat × Nat} {τ τ' : px_TT} {σ σ' : px_S} {fs : List (Nat × (Nat → Nat))} {gs : List (List Nat × Int64)} {ws : List (List Nat)} {n : Nat} {b : Nat → Nat} {a : Int32} {Y : px_Y} {k N : Nat}
theorem NEc_b {ro z : Nat} (h1 : fN τ 0 1 = some ro) (hz : z ≤ 65536) (h2 : fI τ ro 1 = nI z) (h3 : 0 < z → b8 (eI τ (ro + 1) 0) ≠ 127) : NEc τ := by
  refine ⟨ro, z, h1, hz, h2, ne_b0 (fun j => ?_) (fun h => ?_)⟩
  · show (if j < z then b8 (eI τ (ro + 1) j) else 0) < 256
    split
    · exact b8_lt _
    · decide
  · show (if 0 < z then b8 (eI τ (ro + 1) 0) else 0) ≠ 127
    rw [if_pos h]
    exact h3 h
theorem NEr_b {z : Nat} (hz : z ≤ 65536) (h : gI σ 4 = nI z) (h0 : 0 < z → b8 (gA σ 3 0) ≠ 127) : NEr σ := by
  refine ⟨z, hz, h, ne_b0 (fun j => cb_lt _ _ _ _) (fun h => ?_)⟩
  show (if 0 < z then b8 (gA σ 3 (0 + 0)) else 0) ≠ 127
  rw [if_pos h]
  exact h0 h
/-- the memory is as it was, by a copy of the safety -/
theorem KOm_J {α : Type} {V : α → Prop} {f : Option (α × px_H)} {v : α} (hC : CV sk L own τ fs gs ws n b a Y) (hI : SI none sk L τ τ') (ef : f = some (v, cH sk L τ')) (w : Sf sk L (SJ 0 none sk L τ) V f) : KOm τ τ' := by
  obtain ⟨v4, τ4, e4, _, hJ⟩ := w
  have C4 := CV_SI hC (SJ_I hJ)
  have C3 := CV_SI hC hI
  exact KOm_tr (KOm_SJ hJ) (KOm_H C4.1 C3.1 C4.2.1 C3.2.1 (out_eq e4 ef).2)
/-- a call that leaves no executable in OUT -/
theorem ZN {I J A B : List Nat} (hz : ZO sk L τ σ) (hC : CV sk L own τ fs gs ws n b a Y) (hI : SI none sk L τ τ') (hk : KOm τ τ') (ne : NEc τ') (f : FR I J A B σ σ') (hI4 : 102 ∉ I ∧ 44 ∉ I ∧ 13 ∉ I ∧ 43 ∉ I ∧ 48 ∉ I) (hA4 : 45 ∉ A ∧ 46 ∉ A ∧ 42 ∉ A ∧ 49 ∉ A ∧ 38 ∉ A ∧ 100 ∉ A) (hB4 : 47 ∉ B ∧ 105 ∉ B ∧ 106 ∉ B ∧ 107 ∉ B ∧ 108 ∉ B ∧ 109 ∉ B) (nr : NEr σ') : ZO sk L τ' σ' := by
  have C2 := CV_SI hC hI
  exact ⟨ZM_R (ZM_K hz.1 C2.1 hk) (KRm_FR f ⟨hI4.1, hI4.2.1⟩ ⟨hA4.1, hA4.2.1, hA4.2.2.2.2.2⟩ hB4), ZU_ne C2 ne nr, fun w => ZF_R (ZF_K (hz.2.2 ((f.1 13 hI4.2.2.1).symm.trans w)) (KOf_SI hC hI)) (KRf_FR f ⟨hI4.2.2.2.1, hI4.2.2.2.2⟩ ⟨hA4.2.2.1, hA4.2.2.2.1, hA4.2.2.2.2.1⟩)⟩
/-- what is published is the draft -/
theorem z_publishX {r : Nat} (hC : CV sk L own τ fs gs ws n b a Y) {τ1 : px_TT} (hI : SI none sk L τ τ1) (h2 : fN τ1 0 2 = some r) : ∃ τ', f_H_publishDraft F c 0 (cH sk L τ1) = some (fI τ1 r 1, cH sk L τ') ∧ SI none sk L τ τ' ∧ fN τ' 0 1 = some r ∧ fI τ' r 1 = fI τ1 r 1 ∧ eI τ' (r + 1) = eI τ1 (r + 1) := by
  obtain ⟨v, τ', e, _, i⟩ := sf_publish (F := F) (c := c) (CV_S4 hC).1.1.1 hI
  obtain ⟨ro, rd, hc, e1, e2⟩ := hI.2.2.1.1
  have er : rd = r := by rw [e2] at h2; injection h2
  subst er
  have o0 := G0 hC.1
  obtain ⟨ro', _, r1', _⟩ := CV_out (CV_SI hC i)
  have orr : ob sk L 10 rd := by
    rcases hc with ⟨_, rfl⟩ | ⟨_, rfl⟩
    · exact G5 hC.1
    · exact G3 hC.1
  have arr : ar sk L 0 65536 (rd + 1) := by
    rcases hc with ⟨_, rfl⟩ | ⟨_, rfl⟩
    · exact GS_a hC.1 (by decide) (by decide)
    · exact GS_a hC.1 (by decide) (by decide)
  unfold f_H_publishDraft at e
  have x1 : fN (tN (tN τ1 0 1 (some rd)) 0 2 (some ro)) 0 1 = some rd := by
    rw [fN_tN, if_neg (by omega), fN_tN, if_pos ⟨rfl, rfl⟩]
  rw [C0r1 o0 e1, bs, C0r2 o0 e2, bs, C0v1 o0, bs, C0v2 o0, bs, C0r1 o0 x1, bs, C10g1 orr, bs] at e
  have ee := Prod.mk.inj (Option.some.inj e)
  refine ⟨τ', ?_, i, (hp_gR (ci := 0) o0 o0 rfl (by decide) ee.2 x1 r1').trans x1, hp_gI (τ := tN (tN τ1 0 1 (some rd)) 0 2 (some ro)) (ci := 10) orr orr rfl (by decide) ee.2, hp_A (τ := tN (tN τ1 0 1 (some rd)) 0 2 (some ro)) arr arr (Or.inl rfl) ee.2⟩
  unfold f_H_publishDraft
  rw [C0r1 o0 e1, bs, C0r2 o0 e2, bs, C0v1 o0, bs, C0v2 o0, bs, C0r1 o0 x1, bs, C10g1 orr, bs, ee.2]
  rfl
theorem Z_list {x y : Int32} (hF : 65540 < F) (hz : ZO sk L τ σ) (hC : CV sk L own τ fs gs ws n b a Y) (hR : RV σ fs gs ws n b a Y) (hm : RMk sk L (k + 210)) (hN : n + (fs.map Prod.fst).sum ≤ N) : BTO RnI (fun ci σ => ci = 15 ∧ gI σ 0 = nI 1) sk L τ k N (f_H_list F c 0 x y (cH sk L τ)) (g_H_list F c 0 x y (cH sk L τ)) (fun h => f_M_list F 1726 x y (mh 1726 h σ)) := by
  rcases k_objAt (F := F) (c := c) (i := x) (k := y) hC with ⟨q, o, n', b', hM, e⟩ | ⟨hM, e⟩
  · have hob : obAt fs q = some (o, n', b', false) := by
      obtain ⟨_, _, _, _, _, _, _, h⟩ := hM
      exact h
    have he : eObj b' n' = 0 := by
      obtain ⟨_, _, e5, _, _, hd⟩ := CF_ob hC.2.2.2.1 hob
      have w := (hd rfl).2.2
      rw [e5] at w
      exact w
    have hM64 := w2_M (eObj_0 he).1
    have hle : lsz (yB b') (yL b') (oM b' - 1) 1 ≤ 65536 := by
      by_cases c0 : oM b' = 0
      · rw [c0]; exact Nat.zero_le _
      · have w := lsz_le (Bf := yB b') (Yf := yL b') (M := oM b') (fun k h1 h2 hB => (yG_n (yOK_n ((eObj_0 he).2.1 k h1 h2) hB).2.1).2.1) (oM b' - 1) 1 (Nat.le_refl _) (by omega)
        omega
    obtain ⟨ro, A, hT, e1⟩ := CV_ro hC
    obtain rfl : A = ro + 1 := by unfold TRw at hT; omega
    obtain ⟨u, τ', e2, _, i, iB, _⟩ := zp_list (F := F) (c := c) hF hC hob hT (SI_self hC) (fun _ => rfl)
    have eC : f_H_list F c 0 x y (cH sk L τ) = some (nI (lsz (yB b') (yL b') (oM b' - 1) 1), cH sk L τ') := by
      unfold f_H_list
      rw [c_o (G0 hC.1), bs, e, xb_mk]
      dsimp only
      rw [C0r15 (G0 hC.1) (GR_r (v := 1713) hC.2.1 (by decide)), bs, C0r1 (G0 hC.1) e1, bs, c_o (G1713 hC.1), bs, e2, xb_mk, C0r1 (G0 hC.1) ((i.2.2 1).trans e1), bs, C10g1 (SI_row i.1 hT).1, bs, (i.2.1.1 hle).1]
    refine ⟨fs, gs, ws, n, b, a, Y, hN, Or.inl ⟨_, sk, L, τ', own, eC, EX_refl, K26_Z i.1.1, RMk_le hm (by omega), CV_SI hC i.1, fun h hl => ?_⟩⟩
    obtain ⟨w, σ', e3, rfl, hW, hW0⟩ := (qy_list (F := F) hl hF hR.2.1 hR.2.2.2.2.1).1 q o n' b' hM
    have hf := FR_trans (FR_mono (FR_I σ 0 (nI 0)) (by decide) (by decide) (by decide) (by decide)) hW.1.1
    refine ⟨_, σ', e3, RV_W hR ⟨_, hle, hf, hW.1.2⟩, ⟨rfl, hW.2⟩, ?_⟩
    have kJ : KOm τ τ' := by
      rcases jsf_Hlist (F := F) (c := c) (i := x) (k := y) (CV_S4 hC) hF (SJ_of (SI_self hC) MEs_refl OUs_refl) with e' | w
      · rw [e] at e'
        cases e'
      · exact KOm_J hC i.1 eC w
    exact ZN hz hC i.1 kJ (NEc_b ((i.2.2 1).trans e1) hle (i.2.1.1 hle).1 (fun hc => by obtain ⟨_, _, _, _, hb⟩ := iB hc; exact hb)) hf (by decide) (by decide) (by decide) (NEr_b hle hW.1.2.1 hW0)
  · refine ⟨fs, gs, ws, n, b, a, Y, hN, Or.inr ⟨15, τ, own, ?_, K26_refl τ, RMk_le hm (by omega), hC, fun h hl => ⟨_, _, (q_list (F := F) hl hF hR.2.1 hR.2.2.2.2.1).2 hM, RV_0 hR (FR_I _ _ _), ⟨rfl, rfl⟩, Z_I hz⟩⟩⟩
    unfold g_H_list
    rw [c_o (G0 hC.1), bs, e, xb_mk]
end ZLL
end
section
/-! pack, map: both sides -/
theorem nI_mm1 {k : Nat} (h : k < 2 ^ 31) : ¬ nI k = Int32.ofInt (-1) := fun e => by
  have w : (0 : Int32) ≤ nI k := nI_0le h
  rw [e] at w
  exact absurd w (by decide)
section ZLM
variable {F : Nat} {c : px_CT} {sk sk' : Nat → Nat × Nat × Nat} {L L' : Nat} {own own' : Nat → Nat × Nat} {τ τ' τ1 τ2 : px_TT} {σ σ' σ2 : px_S} {fs fs' : List (Nat × (Nat → Nat))} {gs gs' : List (List Nat × Int64)} {ws ws' : List (List Nat)} {n n' : Nat} {b b' : Nat → Nat} {a a' : Int32} {Y Y' : px_Y} {k N : Nat}
/-- the same heaps: the same relation -/
theorem ZTr {h : px_H} (hz : ZO sk L τ2 σ2) (C2 : CV sk L own τ2 fs gs ws n b a Y) (h13 : gI σ2 13 = a) (hC' : CV sk' L' own' τ' fs' gs' ws' n' b' a' Y') (ex : EX sk L sk' L') (v2 : cH sk L τ2 = cH sk' L' τ') (hl : 1726 ≤ h.length) (w2 : mh 1726 h σ2 = mh 1726 h σ') : ZO sk' L' τ' σ' := ZO_mh hl (ZC_0 hz h13 C2 hC' ex v2) w2
/-- what a call that writes the draft leaves -/
def KDr (ro : Nat) (τ τ1 : px_TT) : Prop := KOm τ τ1 ∧ fI τ1 ro 1 = fI τ ro 1 ∧ eI τ1 (ro + 1) = eI τ (ro + 1)
theorem KO_draft {α : Type} {V : α → Prop} {f : Option (α × px_H)} {v : α} {ro : Nat} (hC : CV sk L own τ fs gs ws n b a Y) (hI : SI none sk L τ τ1) (hro : ro = 3 ∨ ro = 5) (ef : f = some (v, cH sk L τ1)) (w : Sf sk L (SJ ro none sk L τ) V f) : KDr ro τ τ1 := by
  obtain ⟨v4, τ4, e4, _, hJ⟩ := w
  have C4 := CV_SI hC (SJ_I hJ)
  have C3 := CV_SI hC hI
  have eh := (out_eq e4 ef).2
  have ou := SJ_O hJ hro
  have orr : ob sk L 10 ro := by
    rcases hro with rfl | rfl
    · exact G3 hC.1
    · exact G5 hC.1
  have arr : ar sk L 0 65536 (ro + 1) := by
    rcases hro with rfl | rfl
    · exact GS_a hC.1 (by decide) (by decide)
    · exact GS_a hC.1 (by decide) (by decide)
  exact ⟨KOm_tr (KOm_SJ hJ) (KOm_H C4.1 C3.1 C4.2.1 C3.2.1 eh), (hp_gI (ci := 10) orr orr rfl (by decide) eh).trans (ou.1 1), (hp_A arr arr (Or.inl rfl) eh).trans ou.2.1⟩
theorem ZU_dr {ro : Nat} (h : ZU sk L τ σ) (hC : CV sk L own τ fs gs ws n b a Y) (hC1 : CV sk L own' τ1 fs' gs' ws' n' b' a' Y') (r0 : fN τ 0 1 = some ro) (r1 : fN τ1 0 1 = some ro) (kd : KDr ro τ τ1) : ZU sk L τ1 σ := by
  obtain ⟨z, b1, z', b2, ⟨ro', p1, p2, p3⟩, u⟩ := h
  obtain rfl : ro' = ro := by
    rw [r0] at p2
    exact (Option.some.inj p2).symm
  refine ⟨z, b1, z', b2, ⟨ro', p1, r1, ?_⟩, u⟩
  rcases p1 with rfl | rfl
  · exact cRA_g p3 (G3 hC.1) (GS_a hC.1 (by decide) (by decide)) (by rw [GR_r (v := 4) hC.2.1 (by decide), GR_r (v := 4) hC1.2.1 (by decide)]) kd.2.1 kd.2.2
  · exact cRA_g p3 (G5 hC.1) (GS_a hC.1 (by decide) (by decide)) (by rw [GR_r (v := 6) hC.2.1 (by decide), GR_r (v := 6) hC1.2.1 (by decide)]) kd.2.1 kd.2.2
theorem ZU_R (h : ZU sk L τ σ) (k1 : KRo σ σ') : ZU sk L τ σ' := by
  obtain ⟨z1, b1, z2, b2, u1, u2, u3⟩ := h
  exact ⟨z1, b1, z2, b2, u1, ⟨u2.1, k1.1.trans u2.2.1, by rw [k1.2]; exact u2.2.2⟩, u3⟩
/-- a draft that is not published -/
theorem ZD {I J A B : List Nat} {ro : Nat} (hz : ZO sk L τ σ) (hC : CV sk L own τ fs gs ws n b a Y) (hI : SI none sk L τ τ1) (r0 : fN τ 0 1 = some ro) (r1 : fN τ1 0 1 = some ro) (kd : KDr ro τ τ1) (f : FR I J A B σ σ') (hI4 : 4 ∉ I ∧ 102 ∉ I ∧ 44 ∉ I ∧ 13 ∉ I ∧ 43 ∉ I ∧ 48 ∉ I) (hA4 : 3 ∉ A ∧ 45 ∉ A ∧ 46 ∉ A ∧ 42 ∉ A ∧ 49 ∉ A ∧ 38 ∉ A ∧ 100 ∉ A) (hB4 : 47 ∉ B ∧ 105 ∉ B ∧ 106 ∉ B ∧ 107 ∉ B ∧ 108 ∉ B ∧ 109 ∉ B) : ZO sk L τ1 σ' := by
  have C2 := CV_SI hC hI
  obtain ⟨q1, q2, q3, q4⟩ := KRa_FR f hI4 hA4 hB4
  exact ⟨ZM_R (ZM_K hz.1 C2.1 kd.1) q2, ZU_R (ZU_dr hz.2.1 hC C2 r0 r1 kd) q1, fun w => ZF_R (ZF_K (hz.2.2 (q3.symm.trans w)) (KOf_SI hC hI)) q4⟩
theorem Z_pack (hK : KT c) (hF : 65540 < F) (hz : ZO sk L τ σ) (hC : CV sk L own τ fs gs ws n b a Y) (hR : RV σ fs gs ws n b a Y) (hm : RMk sk L (k + 210)) (hN : n + (fs.map Prod.fst).sum ≤ N) : BTO (fun (v w : Int32) _ => v = w) (fun _ _ => False) sk L τ k N (f_H_pack F c 0 (cH sk L τ)) none (fun h => f_M_pack F 1726 (mh 1726 h σ)) := by
  obtain ⟨rd, A, hT, e2⟩ := CV_rd hC
  obtain rfl : A = rd + 1 := by unfold TRw at hT; omega
  have w := z_pk11 (F := F) (c := c) (r := rd) hF hC (fun τ hI hN => zp_wp111 hK hF hC hT hI hN) 64 0 F τ rfl (by omega) (SI_self hC) (fun _ => rfl)
  obtain ⟨v, τ1, e1, hv, i1, n1, s1⟩ := w
  have e1' : f_Scribe_writePacked F c 1713 rd 9 (cH sk L τ) = some (v, cH sk L τ1) := e1
  obtain ⟨ro, rd', hc, r1, r2⟩ := (SI_self hC).2.2.1.1
  obtain rfl : rd' = rd := by
    rw [e2] at r2
    exact (Option.some.inj r2).symm
  have hro : ro = 3 ∨ ro = 5 := by omega
  have kd := KO_draft hC i1 hro e1' (jsf_packed (wq := ro) (CV_S4 hC).1.1 hK hF (by unfold RWj; omega) (SJ_of (SI_self hC) MEs_refl OUs_refl))
  refine BTO_of (Bx_pack hK hF hC hR hm hN) (fun v' sk' L' τ' own' fs' gs' ws' n' b' a' Y' h w σ' e ex hC' hl q0 _ _ => ?_) (fun _ _ _ _ _ _ _ _ _ _ _ _ _ e => by cases e)
  obtain ⟨w2, σ2, q2, hw2, hs⟩ := qj_pack (F := F) (m := 1726) (h := h) hl hF hR.2.1 hR.2.2.2.2.1
  cases hO : pkO fs with
  | false =>
    have eC : f_H_pack F c 0 (cH sk L τ) = some (pkR fs, cH sk L τ1) := by
      unfold f_H_pack
      rw [C0r15 (G0 hC.1) (GR_r (v := 1713) hC.2.1 (by decide)), bs, C0r2 (G0 hC.1) e2, bs, C0r4 (G0 hC.1) (R0_4 hC.2.1), bs, c_o (G1713 hC.1), bs, e1', xb_mk, hv, pkR_e, hO, if_pos (show bI false = 0 from rfl), if_neg (by decide)]
    rcases hs with ⟨_, f⟩ | ⟨T, hT8, eT, _⟩
    · exact ZTr (ZD hz hC i1 r1 ((n1 1).trans r1) kd f (by decide) (by decide) (by decide)) (CV_SI hC i1) ((f.1 13 (by decide)).trans (RV13 hR)) hC' ex (out_eq eC e).2 hl (out_eq q2 q0).2
    · rw [pkR_e, hO, if_neg (by decide)] at eT
      exact absurd eT.symm (nI_mm1 (by omega))
  | true =>
    obtain ⟨τ2, e3, i2, p1, p2, p3⟩ := z_publishX (F := F) (c := c) hC i1 ((n1 2).trans e2)
    obtain ⟨s2, z, z0, z1, z2, z3⟩ := s1 hO
    have eC : f_H_pack F c 0 (cH sk L τ) = some (pkR fs, cH sk L τ2) := by
      unfold f_H_pack
      rw [C0r15 (G0 hC.1) (GR_r (v := 1713) hC.2.1 (by decide)), bs, C0r2 (G0 hC.1) e2, bs, C0r4 (G0 hC.1) (R0_4 hC.2.1), bs, c_o (G1713 hC.1), bs, e1', xb_mk, hv, pkR_e, hO, if_neg (show ¬ bI true = 0 by decide), if_pos rfl, c_o (G0 hC.1), bs, e3, xb_mk, s2]
    rcases hs with ⟨eT, _⟩ | ⟨T, hT8, eT, f, g4, g0⟩
    · rw [pkR_e, hO, if_pos rfl, ← s2, z2] at eT
      exact absurd eT (nI_mm1 (by omega))
    · exact ZTr (ZN hz hC i2 (KOm_J hC i2 eC (jsf_Hpack (CV_S4 hC).1.1 hK hF (SJ_of (SI_self hC) MEs_refl OUs_refl))) (NEc_b p1 z1 (p2.trans z2) (fun _ => by rw [p3]; exact z3)) f (by decide) (by decide) (by decide) (NEr_b (by omega) g4 (fun _ => g0))) (CV_SI hC i2) ((f.1 13 (by decide)).trans (RV13 hR)) hC' ex (out_eq eC e).2 hl (out_eq q2 q0).2
theorem Z_map (hF : 65540 < F) (hz : ZO sk L τ σ) (hC : CV sk L own τ fs gs ws n b a Y) (hR : RV σ fs gs ws n b a Y) (hm : RMk sk L (k + 210)) (hN : n + (fs.map Prod.fst).sum ≤ N) : BTO RnI (fun ci σ => ci = 14 ∧ gI σ 0 = nI 1) sk L τ k N (f_H_map F c 0 (cH sk L τ)) (g_H_map F c 0 (cH sk L τ)) (fun h => f_M_map F 1726 (mh 1726 h σ)) := by
  have o0 := G0 hC.1
  have ea : fI τ 147 18 = a := hC.2.2.2.2.2.2.2.2.2.2
  have h13 : gI σ 13 = a := RV13 hR
  by_cases c0 : a = 0
  · have hM := MPs_X hC (RV_X hR) c0
    have hod : Y.2.2.2.2.length ≤ 4096 := hM.2.1
    obtain ⟨rd, A, hT, e2⟩ := CV_rd hC
    obtain rfl : A = rd + 1 := by unfold TRw at hT; omega
    obtain ⟨v, τ1, e1, hv, ⟨i1, z1, n1⟩, iB, _⟩ := zp_map (F := F) (c := c) hF hC c0 hT hod (SI_self hC) (fun _ => rfl)
    obtain ⟨ro, rd', hc, r1, r2⟩ := (SI_self hC).2.2.1.1
    obtain rfl : rd' = rd := by
      rw [e2] at r2
      exact (Option.some.inj r2).symm
    have hro : ro = 3 ∨ ro = 5 := by omega
    have kd := KO_draft hC i1 hro e1 (jsf_map (wq := ro) (CV_S4 hC).1 hF (by unfold RWj; omega) (SJ_of (SI_self hC) MEs_refl OUs_refl))
    refine BTO_of (Bx_map hF hC hR hm hN) (fun v' sk' L' τ' own' fs' gs' ws' n' b' a' Y' h w σ' e ex hC' hl q0 _ _ => ?_) (fun ci τ' own' fs' gs' ws' n' b' a' Y' h w σ' e _ _ _ _ _ => ?_)
    · obtain ⟨w2, σ2, q2, hw2, hs⟩ := (qy_map (F := F) (m := 1726) (h := h) hl hF hR.2.2.2.2.1).2 (h13.trans c0) hM
      by_cases cT : mpT Y ≤ 65536
      · obtain ⟨τ2, e3, i2, p1, p2, p3⟩ := z_publishX (F := F) (c := c) hC i1 ((n1 2).trans e2)
        have eC : f_H_map F c 0 (cH sk L τ) = some (nI (mpT Y), cH sk L τ2) := by
          unfold f_H_map
          rw [C0r11 o0 (GR_r (v := 147) hC.2.1 (by decide)), bs, C3g18 (G147 hC.1), bs, ea, if_pos c0, C0r15 o0 (GR_r (v := 1713) hC.2.1 (by decide)), bs, C0r2 o0 e2, bs, c_o (G1713 hC.1), bs, e1, xb_mk, hv, decide_eq_true cT, if_neg (show ¬ bI true = 0 by decide), c_o o0, bs, e3, xb_mk, (z1.1 cT).1]
        rcases hs with ⟨hT2, _⟩ | ⟨_, cc, hcc, ⟨hW, h00⟩, hb⟩
        · exact absurd cT (Nat.not_le.mpr hT2 : ¬ mpT Y ≤ 65536)
        · exact ZTr (ZN hz hC i2 (KOm_J hC i2 eC (jsf_Hmap (CV_S4 hC).1 hF (SJ_of (SI_self hC) MEs_refl OUs_refl) (ea.trans c0))) (NEc_b p1 cT (p2.trans (z1.1 cT).1) (fun w0 => by obtain ⟨_, _, _, _, hb⟩ := iB w0; rw [p3]; exact hb)) hW.1 (by decide) (by decide) (by decide) (NEr_b hcc hW.2.1 hb)) (CV_SI hC i2) ((hW.1.1 13 (by decide)).trans h13) hC' ex (out_eq eC e).2 hl (out_eq q2 q0).2
      · have eC : f_H_map F c 0 (cH sk L τ) = some (Int32.ofInt (-1), cH sk L τ1) := by
          unfold f_H_map
          rw [C0r11 o0 (GR_r (v := 147) hC.2.1 (by decide)), bs, C3g18 (G147 hC.1), bs, ea, if_pos c0, C0r15 o0 (GR_r (v := 1713) hC.2.1 (by decide)), bs, C0r2 o0 e2, bs, c_o (G1713 hC.1), bs, e1, xb_mk, hv, decide_eq_false cT, if_pos (show bI false = 0 from rfl)]
        rcases hs with ⟨_, f⟩ | ⟨hT2, _⟩
        · exact ZTr (ZD hz hC i1 r1 ((n1 1).trans r1) kd f (by decide) (by decide) (by decide)) (CV_SI hC i1) ((f.1 13 (by decide)).trans h13) hC' ex (out_eq eC e).2 hl (out_eq q2 q0).2
        · exact absurd (show mpT Y ≤ 65536 from hT2) cT
    · unfold g_H_map at e
      rw [C0r11 o0 (GR_r (v := 147) hC.2.1 (by decide)), bs, C3g18 (G147 hC.1), bs, if_pos (ea.trans c0)] at e
      exact absurd e (by intro q; first | (simp only [bnone, xnone, ite_self, reduceCtorEq] at q; done) | (simp only [bnone, xnone, ite_self] at q; cases q))
  · exact ⟨fs, gs, ws, n, b, a, Y, hN, Or.inr ⟨14, τ, own, by unfold g_H_map; rw [C0r11 o0 (GR_r (v := 147) hC.2.1 (by decide)), bs, C3g18 (G147 hC.1), bs, if_neg (by rw [ea]; exact c0)], K26_refl τ, RMk_le hm (by omega), hC, fun h hl => ⟨_, _, (qy_map (F := F) (nS := 0) (nD := 0) (zf := id) (uf := id) (gf := id) (ff := id) (mf := id) (lf := id) (df := id) hl hF hR.2.2.2.2.1).1 (by rw [h13]; exact c0), RV_0 hR (FR_I _ _ _), ⟨rfl, rfl⟩, Z_I hz⟩⟩⟩
end ZLM
end
section
/-! named: both sides -/
theorem NMF_any {Y : px_Y} {nf wh nf' wh' : Nat → Nat} {sp np T p k x : Nat} (h : NMF Y nf' wh' sp np T p k x) : ∃ x', NMF Y nf wh sp np T p k x' := by
  rcases h with ⟨j, hj, h⟩ | h | h
  · rcases h with ⟨e1, e2, _⟩ | ⟨e1, e2, _⟩ | ⟨e1, e2, _⟩ | ⟨e1, e2, _⟩
    · exact ⟨_, Or.inl ⟨j, hj, Or.inl ⟨e1, e2, rfl⟩⟩⟩
    · exact ⟨_, Or.inl ⟨j, hj, Or.inr (Or.inl ⟨e1, e2, rfl⟩)⟩⟩
    · exact ⟨_, Or.inl ⟨j, hj, Or.inr (Or.inr (Or.inl ⟨e1, e2, rfl⟩))⟩⟩
    · exact ⟨_, Or.inl ⟨j, hj, Or.inr (Or.inr (Or.inr ⟨e1, e2, rfl⟩))⟩⟩
  · exact ⟨x, Or.inr (Or.inl h)⟩
  · exact ⟨x, Or.inr (Or.inr h)⟩
theorem wiN_ge (x : Nat) : x ≤ wiN x := by unfold wiN; omega
section ZLN
variable {F : Nat} {c : px_CT} {sk sk' : Nat → Nat × Nat × Nat} {L L' : Nat} {own own' : Nat → Nat × Nat} {τ τ' τ1 τ2 : px_TT} {σ σ' σ2 : px_S} {fs fs' : List (Nat × (Nat → Nat))} {gs gs' : List (List Nat × Int64)} {ws ws' : List (List Nat)} {n n' : Nat} {b b' : Nat → Nat} {a a' : Int32} {Y Y' : px_Y} {k N : Nat}
/-- the definition at i -/
theorem nm_at (hC : CV sk L own τ fs gs ws n b a Y) (hR : RV σ fs gs ws n b a Y) (ha : a = 0) {i : Nat} (hi : i < Y.2.2.2.2.length) : ∃ dd, Y.2.2.2.2.getD i 0 = dd ∧ dd < 4096 ∧ gA σ 49 i = nI dd ∧ gB σ 29 dd = (nmY Y i).2 ∧ nT (nmY Y i).1 ∧ (∀ x, x ∈ (nmY Y i).1 → x < 256) ∧ ∀ t x, (nmY Y i).1[t]? = some x → gA σ 21 (20 * dd + t) = (nI x).toInt8.toInt32 := by
  obtain ⟨⟨_, hlen, hps⟩, ⟨_, hnt⟩, _, _, hod2⟩ := (CV_X hC).2 ha
  obtain ⟨⟨k1, k2⟩, k3, k4, k5, k6, k7⟩ := (RV_X hR).2 ha
  obtain ⟨dd, hd⟩ : ∃ dd, Y.2.2.2.2[i]? = some dd := ⟨_, List.getElem?_eq_getElem hi⟩
  obtain ⟨d1, _⟩ := hod2 i dd hd
  have hx : Y.2.2.2.1[dd]? = some Y.2.2.2.1[dd] := List.getElem?_eq_getElem d1
  have hxw : (Y.2.2.2.1.map Prod.fst)[dd]? = some Y.2.2.2.1[dd].1 := by rw [List.getElem?_map, hx]; rfl
  have e0 : Y.2.2.2.2.getD i 0 = dd := by rw [List.getD_eq_getElem?_getD, hd]; rfl
  have ex : nmY Y i = Y.2.2.2.1[dd] := by
    show Y.2.2.2.1.getD (Y.2.2.2.2.getD i 0) ([], 0) = _
    rw [e0, List.getD_eq_getElem?_getD, hx]
    rfl
  obtain ⟨z1, z2, z3⟩ := k3.2.2 dd _ hxw
  have hl := k3.2.1
  rw [List.length_map] at hl
  rw [ex]
  exact ⟨dd, e0, by omega, k7 i dd hd, k4 dd _ hx, hnt _ (List.mem_of_getElem? hxw), z1.2, z3⟩
theorem NMi_X (hC : CV sk L own τ fs gs ws n b a Y) (hR : RV σ fs gs ws n b a Y) (ha : a = 0) (hI : IFR σ Y.2.2.2.2.length) : NMi σ Y.2.2.2.2.length (fun i => Y.2.2.2.2.getD i 0) (adNY Y) (fun i => (nmY Y i).1) := by
  intro i hi
  obtain ⟨dd, e0, h4, e49, e29, _, hb, h21⟩ := nm_at hC hR ha hi
  show isI (gA σ 38 (Y.2.2.2.2.getD i 0)) ∧ gB σ 29 (Y.2.2.2.2.getD i 0) = lN (adNY Y i) ∧ adNY Y i < 2 ^ 64 ∧ ∀ t, t < (nmY Y i).1.length → (gA σ 21 (20 * Y.2.2.2.2.getD i 0 + t)).toInt8.toInt32 = nB ((nmY Y i).1.getD t 0) 0
  rw [e0]
  refine ⟨hI i dd hi e49 h4, e29.trans (adNY_l Y i), adNY_lt Y i, fun t ht => ?_⟩
  have e1 : (nmY Y i).1[t]? = some (nmY Y i).1[t] := List.getElem?_eq_getElem ht
  have e2 : (nmY Y i).1.getD t 0 = (nmY Y i).1[t] := by rw [List.getD_eq_getElem?_getD, e1]; rfl
  rw [h21 t _ e1, e2]
  unfold nB
  rw [Nat.pow_zero, Nat.div_one]
  first | rw [Int8.toInt8_toInt32] | simp
theorem Z_named (hK : KT c) (hF : 65540 < F) (hz : ZO sk L τ σ) (hC : CV sk L own τ fs gs ws n b a Y) (hR : RV σ fs gs ws n b a Y) (hm : RMk sk L (k + 210)) (hN : n + (fs.map Prod.fst).sum ≤ N) : BTO RnI (fun ci σ => ci = 14 ∧ gI σ 0 = nI 1) sk L τ k N (f_H_named F c 0 (cH sk L τ)) (g_H_named F c 0 (cH sk L τ)) (fun h => f_M_named F 1726 (mh 1726 h σ)) := by
  have o0 := G0 hC.1
  have ea : fI τ 147 18 = a := hC.2.2.2.2.2.2.2.2.2.2
  have h13 : gI σ 13 = a := RV13 hR
  by_cases c0 : a = 0
  · have hM := NMs_X hC hR c0
    have hod : Y.2.2.2.2.length ≤ 4096 := hM.2.2.1
    have h130 : gI σ 13 = nI 0 := h13.trans (c0.trans (show (0 : Int32) = nI 0 from rfl))
    obtain ⟨⟨en, l, fe, a0, a1, a2, a3, a4, a5⟩, h42, nD, b1, b2, b3, b4, b5⟩ := hz.2.2 h130
    have hck : CKZ τ Y.1.2.1 Y.1.2.2 := hC.2.2.2.2.2.2.2.2.1.2 c0
    obtain rfl : fe = Y.1.2.1 := (nI_eq (by omega) (by have := hck.1; omega)).mp (a1.symm.trans hck.2.1)
    have hf15 : fI τ 147 15 = nI Y.2.2.2.2.length := ((CV_X hC).2 c0).2.2.2.1
    obtain rfl : nD = Y.2.2.2.2.length := (nI_eq (by omega) (by omega)).mp (b2.symm.trans hf15)
    obtain ⟨rd, A, hT, e2⟩ := CV_rd hC
    obtain rfl : A = rd + 1 := by unfold TRw at hT; omega
    obtain ⟨ro, rd', hc, r1, r2⟩ := (SI_self hC).2.2.1.1
    obtain rfl : rd' = rd := by
      rw [e2] at r2
      exact (Option.some.inj r2).symm
    have hro : ro = 3 ∨ ro = 5 := by omega
    refine BTO_of (Bx_named hK hF hC hR hm hN) (fun v' sk' L' τ' own' fs' gs' ws' n' b' a' Y' h w σ' e ex hC' hl q0 _ _ => ?_) (fun ci τ' own' fs' gs' ws' n' b' a' Y' h w σ' e _ _ _ _ _ => ?_)
    · obtain ⟨w2, σ2, q2, hw2, hs2⟩ := (qf_named (F := F) (m := 1726) (h := h) (H := Y.1.2.1) (e := Y.1.2.1) (nD := Y.2.2.2.2.length) (th := Y.1.2.2) (lf := mpL Y) (df := fun i => Y.2.2.2.2.getD i 0) (ad := adNY Y) (wt := fun i => (nmY Y i).1) hl hF hR.2.2.2.2.1 (NMi_X hC hR c0 b5) (fun _ _ => rfl) (by omega) h42 (Nat.le_refl _)).2 (h13.trans c0) hM
      by_cases cT : nmT Y ≤ 65536
      · obtain ⟨v, τ1, e1, hv, nf, wh, hs, ⟨⟨i1, z1, n1⟩, pf, _⟩, hH1⟩ := zf_named (F := F) (c := c) (H := Y.1.2.1) hF hK hC c0 hT hod b4 (by omega) (Nat.le_refl _) cT (SI_self hC) (fun _ => rfl)
        obtain ⟨⟨_, p4⟩, pM⟩ := pf (by omega)
        have ez : fI τ1 rd' 1 = nI (nmT Y) := (z1.1 cT).1
        obtain ⟨τ2, e3, i2, p1, p2, p3⟩ := z_publishX (F := F) (c := c) hC i1 ((n1 2).trans e2)
        have eC : f_H_named F c 0 (cH sk L τ) = some (nI (nmT Y), cH sk L τ2) := by
          unfold f_H_named
          rw [C0r11 o0 (GR_r (v := 147) hC.2.1 (by decide)), bs, C3g18 (G147 hC.1), bs, ea, if_pos c0, C0r15 o0 (GR_r (v := 1713) hC.2.1 (by decide)), bs, C0r2 o0 e2, bs, C0r14 o0 (GR_r (v := 1710) hC.2.1 (by decide)), bs, C1r4 (G1710 hC.1) (GR_r (v := 1711) hC.2.1 (by decide)), bs, c_o (G1713 hC.1), bs, e1, xb_mk, hv, if_neg (show ¬ bI true = 0 by decide), c_o o0, bs, e3, xb_mk, ez]
        rcases hs2 with ⟨hT2, _⟩ | ⟨_, nf', wh', hs', ⟨⟨hW, h00⟩, hlo⟩, hMz⟩
        · exact absurd cT (Nat.not_le.mpr hT2 : ¬ nmT Y ≤ 65536)
        · have C2 := CV_SI hC i2
          have hW4 : gI σ2 4 = nI (nmT Y) := hW.2.1
          obtain ⟨w1, w3, _⟩ := CV_row C2 p1 cT (p2.trans ez)
          have hge : Y.1.2.1 ≤ nmT Y := by
            have g1 := wiN_ge Y.1.2.1
            have g2 := wiN_ge (wiN Y.1.2.1 + 24 * (Y.2.2.2.2.length + 1))
            have g3 := wiN_ge (wiN (wiN Y.1.2.1 + 24 * (Y.2.2.2.2.length + 1)) + (1 + nmS Y))
            unfold nmT
            omega
          have ecb : cb (gA σ2 3) 0 (nmT Y) = fun i => if i < nmT Y then b8 (gA σ2 3 i) else 0 := by
            funext i
            show (if i < nmT Y then b8 (gA σ2 3 (0 + i)) else 0) = _
            rw [Nat.zero_add]
          have hbC : EXb (fun i => if i < nmT Y then b8 (eI τ2 (rd' + 1) i) else 0) (nmT Y) en l.length l := ⟨eI τ2 (rd' + 1), fun i hi => if_pos (by omega), EX7_ex a4 (fun i hi hn => by rw [p3]; exact p4 i (by omega) hn), rfl, by omega⟩
          have hbR : EXb (fun i => if i < nmT Y then b8 (gA σ2 3 i) else 0) (nmT Y) en l.length l := ⟨gA σ2 3, fun i hi => if_pos (by omega), EX7_ex a5.1 (fun i hi hn => hlo i (by omega) hn), rfl, by omega⟩
          have hnt : ∀ i, i < Y.2.2.2.2.length → nT (nmY Y i).1 := fun i hi => by
            obtain ⟨_, _, _, _, _, h5, _⟩ := nm_at hC hR c0 hi
            exact h5
          have hby : ∀ i, i < Y.2.2.2.2.length → ∀ x, x ∈ (nmY Y i).1 → x < 256 := fun i hi => by
            obtain ⟨_, _, _, _, _, _, h6, _⟩ := nm_at hC hR c0 hi
            exact h6
          have hbd : ∀ p k x, NMF Y nf wh (wiN Y.1.2.1) (wiN (wiN Y.1.2.1 + 24 * (Y.2.2.2.2.length + 1))) (wiN (wiN (wiN Y.1.2.1 + 24 * (Y.2.2.2.2.length + 1)) + xoY Y Y.2.2.2.2.length)) p k x → p + k ≤ nmT Y ∧ vAt (eI τ1 (rd' + 1)) p k x := fun p k x hp => by
            obtain ⟨_, ⟨zq, y1, y2, y3⟩, y4⟩ := pM p k x hp
            have : zq = nmT Y := (nI_eq (by omega) (by omega)).mp (y3.symm.trans ez)
            exact ⟨by omega, y4⟩
          have nvC := NMF_nv (g := eI τ2 (rd' + 1)) (z := nmT Y) hs rfl cT (wiN_ge _) (wiN_ge _) hnt hby (fun p k x hp => by rw [p3]; exact (hH1 p k x hp).2) (fun p k x hp => by rw [p3]; exact hbd p k x hp)
          have nvR := NMF_nv (g := gA σ2 3) (z := nmT Y) hs' rfl cT (wiN_ge _) (wiN_ge _) hnt hby (fun p k x hp => hMz p k x (MNz_F (fun _ _ => rfl) (fun _ _ => rfl) (Or.inr hp))) (fun p k x hp => by
            obtain ⟨x', hp'⟩ := NMF_any (nf := nf) (wh := wh) hp
            exact ⟨(hbd p k x' hp').1, hMz p k x (MNz_F (fun _ _ => rfl) (fun _ _ => rfl) (Or.inl hp))⟩)
          obtain ⟨x1, x2⟩ := EXb_x hbC hbR
          have hzu : ZU sk L τ2 σ2 := by
            refine ⟨nmT Y, _, nmT Y, _, ⟨rd', w1, p1, w3⟩, ⟨cT, hW4, rfl⟩, ?_⟩
            rw [ecb]
            exact ⟨x1, fun _ => ⟨congrArg Prod.snd x2, nvC.trans nvR.symm, ALK_b hbC a5.2.1 a0 (fun i h1 h2 => by
              have nx : ¬ Ex7 i := fun w => by unfold Ex7 at w; omega
              show (if i < nmT Y then b8 (eI τ2 (rd' + 1) i) else 0) = (if i < nmT Y then b8 (gA σ2 3 i) else 0)
              rw [p3, p4 i h2 nx, hlo i h2 nx, a5.2.2 i h1 h2])⟩⟩
          have hz2 : ZO sk L τ2 σ2 := ⟨ZM_R (ZM_K hz.1 C2.1 (KOm_J hC i2 eC (jsf_Hnamed (CV_S4 hC).1 hK hF (SJ_of (SI_self hC) MEs_refl OUs_refl) (ea.trans (c0.trans (show (0 : Int32) = nI 0 from rfl)))))) (KRm_FR hW.1 (by decide) (by decide) (by decide)), hzu, fun _ => ZF_R (ZF_K (hz.2.2 h130) (KOf_SI hC i2)) (KRf_FR hW.1 (by decide) (by decide))⟩
          exact ZTr hz2 C2 ((hW.1.1 13 (by decide)).trans h13) hC' ex (out_eq eC e).2 hl (out_eq q2 q0).2
      · obtain ⟨v, τ1, e1, hv, i1, z1, n1⟩ := z_named (F := F) (c := c) hF hK hC c0 hT hod (SI_self hC) (fun _ => rfl)
        have kd := KO_draft hC i1 hro e1 (jsf_named (wq := ro) (CV_S4 hC).1 hK hF (by unfold RWj; omega) (SJ_of (SI_self hC) MEs_refl OUs_refl))
        have eC : f_H_named F c 0 (cH sk L τ) = some (Int32.ofInt (-1), cH sk L τ1) := by
          unfold f_H_named
          rw [C0r11 o0 (GR_r (v := 147) hC.2.1 (by decide)), bs, C3g18 (G147 hC.1), bs, ea, if_pos c0, C0r15 o0 (GR_r (v := 1713) hC.2.1 (by decide)), bs, C0r2 o0 e2, bs, C0r14 o0 (GR_r (v := 1710) hC.2.1 (by decide)), bs, C1r4 (G1710 hC.1) (GR_r (v := 1711) hC.2.1 (by decide)), bs, c_o (G1713 hC.1), bs, e1, xb_mk, hv, decide_eq_false cT, if_pos (show bI false = 0 from rfl)]
        rcases hs2 with ⟨_, f⟩ | ⟨hT2, _⟩
        · exact ZTr (ZD hz hC i1 r1 ((n1 1).trans r1) kd f (by decide) (by decide) (by decide)) (CV_SI hC i1) ((f.1 13 (by decide)).trans h13) hC' ex (out_eq eC e).2 hl (out_eq q2 q0).2
        · exact absurd (show nmT Y ≤ 65536 from hT2) cT
    · unfold g_H_named at e
      rw [C0r11 o0 (GR_r (v := 147) hC.2.1 (by decide)), bs, C3g18 (G147 hC.1), bs, if_pos (ea.trans c0)] at e
      exact absurd e (by intro q; first | (simp only [bnone, xnone, ite_self, reduceCtorEq] at q; done) | (simp only [bnone, xnone, ite_self] at q; cases q))
  · exact ⟨fs, gs, ws, n, b, a, Y, hN, Or.inr ⟨14, τ, own, by unfold g_H_named; rw [C0r11 o0 (GR_r (v := 147) hC.2.1 (by decide)), bs, C3g18 (G147 hC.1), bs, if_neg (by rw [ea]; exact c0)], K26_refl τ, RMk_le hm (by omega), hC, fun h hl => ⟨_, _, (q_named (F := F) (e := 0) (nD := 0) (th := fun _ => false) (lf := id) (df := id) hl hF hR.2.2.2.2.1).1 (by rw [h13]; exact c0), RV_0 hR (FR_I _ _ _), ⟨rfl, rfl⟩, Z_I hz⟩⟩⟩
end ZLN
end
section
/-! link: both sides -/
theorem xnS_0 {b : Nat → Nat} {z : Nat} (h : le b 58 2 = 0) : xnS b z = (0, 0, 0, 0) := by
  have hn : ¬ xnH b z = true := fun w => by
    unfold xnH at w
    rw [Bool.and_eq_true] at w
    have w1 := of_decide_eq_true w.1
    rw [h] at w1
    exact absurd w1 (by decide)
  unfold xnS
  rw [if_neg hn]
theorem ALK_L {b b' : Nat → Nat} {z en : Nat} {l : List px_R7} (h : EXb b z en l.length l) (h' : EXb b' z en l.length l) (h0 : le b 58 2 = 0) (h0' : le b' 58 2 = 0) (hr : R7o l z) (hz : z ≤ 65536) (hb : ∀ i, 64 + 56 * l.length ≤ i → i < z → b i = b' i) : ALK b z b' z := by
  obtain ⟨x1, x2⟩ := EXb_x h h'
  refine ⟨x1, fun _ => ⟨congrArg Prod.snd x2, ?_, ALK_b h hr hz hb⟩⟩
  rw [xnS_0 h0, xnS_0 h0', nvQ_0 (b := b) (q := (0, 0, 0, 0)) (by decide), nvQ_0 (b := b') (q := (0, 0, 0, 0)) (by decide)]
theorem EXb_W {f g : Nat → Int32} {z en : Nat} {l : List px_R7} (hw : ∀ i, i < z → f i = g i) (h : EX7 g en l.length l) (hz : 64 + 56 * l.length ≤ z) : EXb (fun i => if i < z then b8 (f i) else 0) z en l.length l := ⟨g, fun i hi => by
  show (if i < z then b8 (f i) else 0) = b8 (g i)
  rw [if_pos (by omega), hw i (by omega)], h, rfl, hz⟩
theorem le58_W {f g : Nat → Int32} {z : Nat} (hw : ∀ i, i < z → f i = g i) (h : vAt g 58 2 0) (hz : 64 ≤ z) : le (fun i => if i < z then b8 (f i) else 0) 58 2 = 0 :=
  (vAt_le (b := fun i => if i < z then b8 (f i) else 0) h (fun i h1 h2 => by
    show (if i < z then b8 (f i) else 0) = b8 (g i)
    rw [if_pos (by omega), hw i (by omega)])).trans (Nat.zero_mod _)
theorem cb_z0 {f : Nat → Int32} {z : Nat} : cb f 0 z = fun i => if i < z then b8 (f i) else 0 := by
  funext i
  show (if i < z then b8 (f (0 + i)) else 0) = _
  rw [Nat.zero_add]
section ZLO
variable {F : Nat} {c : px_CT} {sk sk' : Nat → Nat × Nat × Nat} {L L' : Nat} {own own' : Nat → Nat × Nat} {τ τ' : px_TT} {σ σ' : px_S} {fs fs' : List (Nat × (Nat → Nat))} {gs gs' : List (List Nat × Int64)} {ws ws' : List (List Nat)} {n n' : Nat} {b b' : Nat → Nat} {a a' : Int32} {Y Y' : px_Y} {k N : Nat}
theorem ZU_L {ro z en : Nat} {g : Nat → Int32} {l : List px_R7} (hC : CV sk L own τ fs gs ws n b a Y) (h1 : fN τ 0 1 = some ro) (hz : z ≤ 65536) (h2 : fI τ ro 1 = nI z) (hw : ∀ i, i < z → eI τ (ro + 1) i = g i) (h : EX8 g en l.length l) (hl : 64 + 56 * l.length ≤ z) (h4 : gI σ 4 = nI z) (h' : EX8 (gA σ 3) en l.length l) (hr : R7o l z) (hb : ∀ i, 64 + 56 * l.length ≤ i → i < z → g i = gA σ 3 i) : ZU sk L τ σ := by
  obtain ⟨c1, c2, _⟩ := CV_row hC h1 hz h2
  refine ⟨z, _, z, _, ⟨ro, c1, h1, c2⟩, ⟨hz, h4, rfl⟩, ?_⟩
  rw [cb_z0]
  exact ALK_L (EXb_W hw h.1 hl) (EXb_W (fun _ _ => rfl) h'.1 hl) (le58_W hw h.2 (by omega)) (le58_W (fun _ _ => rfl) h'.2 (by omega)) hr hz (fun i h1 h2 => by
    show (if i < z then b8 (eI τ (ro + 1) i) else 0) = (if i < z then b8 (gA σ 3 i) else 0)
    rw [hw i h2, hb i h1 h2])
theorem KOm_RL (f : frRL τ τ') : KOm τ τ' := by
  have g := f.1
  exact ⟨⟨(g 1719 (by omega)).1 1, (g 1719 (by omega)).2.2.1 0, (g 1720 (by omega)).2.2.2.1⟩, fun k _ => (g 1718 (by omega)).1 k, (g 1724 (by omega)).2.2.2.1, fun a i h1 h2 _ _ => by rw [(g a (by omega)).2.2.2.2.1]⟩
/-- a link, both sides -/
theorem ZK_link {rc : Bool} {B : Nat → Nat} {v' w' : Int32} {h : px_H} (hK : KT c) (hF : 65540 < F) (hz : ZO sk L τ σ) (hC : CV sk L own τ fs gs ws n b a Y) (hR : RV σ fs gs ws n b a Y) (hm' : RMk sk L (k + rmT fs [] + 32)) (hs : (fs.map Prod.fst).sum ≤ 4096) (hB : RB σ B) (hBF : BFs fs B) (eL : f_H_runLink F c 0 (bI rc) (cH sk L τ) = some (v', cH sk' L' τ')) (ex : EX sk L sk' L') (hC' : CV sk' L' own' τ' fs' gs' ws' n' b' a' Y') (hl : 1726 ≤ h.length) (q0 : f_M_link F 1726 (bI rc) (mh 1726 h σ) = some (w', mh 1726 h σ')) (hR' : RV σ' fs' gs' ws' n' b' a' Y') : ZO sk' L' τ' σ' := by
  obtain ⟨v1, v2, v3, v4, v5, v6, v7, v8⟩ := id hR
  have hv : LNV σ := ⟨v5.2, v5.1, v8.2.2.1, v8.2.2.2.1, v8.2.2.2.2.1, v8.2.2.2.2.2⟩
  obtain ⟨σ2, j2, s2, x1, x2, x3, x4, x5⟩ := q_linkX (rc := rc) (F := F) hl hF v2 v3 v4 hv hB hs
  obtain ⟨σ3, j, s, y1, y2, y3, y4, y5, y6, y7, y8, y9, _⟩ := q_link (rc := rc) (F := F) hl hF v2 v3 v4 hv hB hs
  have es : s2 = s := x2.1.trans y2.1.symm
  rw [es] at x2 x3
  have hj2 := lnR_4 x2 y4.2.1.1.1
  have hj := lnR_4 y2 y4.2.1.1.1
  obtain ⟨E2, E2'⟩ := out_eq x1 q0
  obtain ⟨E3, E3'⟩ := out_eq y1 q0
  have ej : j2 = j := (nI_eq (by omega) (by omega)).mp (E2.trans E3.symm)
  rw [ej] at x3 x4 x5
  obtain ⟨p2o, p2m, p2a, p2f⟩ := KR_H hl E2'
  obtain ⟨p3o, p3m, p3a, p3f⟩ := KR_H hl E3'
  obtain ⟨hS, hG, hn, hf, hg, hw, ht, ⟨r1, r2, r3, r4, r5, r6⟩, hcx, hnd⟩ := id hC
  obtain ⟨sk1, L1, τ1, own1, ST, rn, z1, z2, z3, z4, z5, z6, z7, z8, z9, z10, z11, z12, z13, z14⟩ := k_runLink (F := F) (c := c) (k := k) hF hK hS hG hn hg hw hf hm' hnd.1.1 r1 r2 r4.2 hs hBF y2
  obtain ⟨sk4, L4, τ4, ro, u1, u2, u3, u4, u5, u6, u7, u8⟩ := k_runLinkX (F := F) (c := c) (k := k) hF hK hS hG hn hg hw hf hm' hnd.1.1 r1 r2 r4.2 hs hBF y2
  have D1 := (out_eq z1 eL).2
  have D4 := (out_eq u1 eL).2
  have km := KOm_tr (KOm_RL z12) (KOm_H z4.1 hC'.1 z4.2.1 hC'.2.1 D1)
  have hM : ZM sk' L' τ' σ' := ZM_R (ZM_R (ZM_K hz.1 hC'.1 km) (KRm_FR y9 (by decide) (by decide) (by decide))) p3m
  have oC : ob sk L 10 ro ∧ ar sk L 0 65536 (ro + 1) := by
    rcases u3 with e | e
    · rw [e]; exact ⟨G3 hS, GS_a hS (by decide) (by decide)⟩
    · rw [e]; exact ⟨G5 hS, GS_a hS (by decide) (by decide)⟩
  have f1 : fI τ' ro 1 = fI τ4 ro 1 := hp_gI (ci := 10) (ob_ex oC.1 u2) (ob_ex oC.1 ex) rfl (by decide) D4
  have f2 : eI τ' (ro + 1) = eI τ4 (ro + 1) := hp_A (ar_ex oC.2 u2) (ar_ex oC.2 ex) (Or.inl rfl) D4
  obtain ⟨ro', _, r1', _⟩ := CV_out hC'
  have f0 : fN τ' 0 1 = some ro := (hp_gR (ci := 0) (ob_ex (G0 hS) u2) (G0 hC'.1) rfl (by decide) D4 u5 r1').trans u5
  have fr0 : fN τ' ro 0 = fN τ ro 0 := by
    rcases u3 with e | e
    · rw [e, GR_r (v := 4) hG (by decide), GR_r (v := 4) hC'.2.1 (by decide)]
    · rw [e, GR_r (v := 6) hG (by decide), GR_r (v := 6) hC'.2.1 (by decide)]
  have hU : ZU sk' L' τ' σ' := by
    by_cases c0 : j = 0
    · obtain ⟨ll, ad, NA, o1, g, o2, o3, o4, o5, o6, o7⟩ := u6 c0
      obtain ⟨ll', ad', NA', q1, q2, q3, q4, q5, q6, q7⟩ := x3 c0
      obtain ⟨e1, e2, e3⟩ := lnX_u o1 q1
      subst e1
      subst e2
      subst e3
      exact ZU_L hC' f0 o2.1 (f1.trans o2.2.1) (fun i hi => by rw [f2]; exact o2.2.2 i hi) o4 o5 (p2o.1.trans q2.2) (by rw [p2o.2]; exact q3) o6 (fun i h1 h2 => by rw [p2o.2]; exact (o7 i h1 h2).trans (q7 i h1 h2).1.symm)
    · by_cases c3 : 3 ≤ j
      · obtain ⟨w1, w2⟩ := u7 c3
        obtain ⟨za, ba, zb, bb, ⟨ro2, s1, s2', s3⟩, u⟩ := hz.2.1
        have er : ro2 = ro := Option.some.inj (s2'.symm.trans u4)
        rw [er] at s1 s3
        have hu : ZU sk' L' τ' σ := ⟨za, ba, zb, bb, ⟨ro, s1, f0, cRA_g s3 (ob_ex oC.1 ex) (ar_ex oC.2 ex) fr0 (f1.trans w1) (f2.trans w2)⟩, u⟩
        exact ZU_R (ZU_R hu (x4 c3)) p2o
      · obtain ⟨zz, hz24, ez⟩ := u8 (by omega)
        obtain ⟨nn, hn20, en⟩ := x5 (by omega)
        exact ZU_e hC' f0 (f1.trans ez) (by omega) (p2o.1.trans en) (by omega)
  refine ⟨hM, hU, fun h13 => ?_⟩
  have ha' : a' = nI 0 := (RV13 hR').symm.trans h13
  have ha0 : a' = 0 := ha'.trans (show nI 0 = (0 : Int32) from rfl)
  have c0 : j = 0 := (nI_eq (b := 0) (by omega) (by decide)).mp (y3.symm.trans (p3a.symm.trans h13))
  obtain ⟨ll, ad, NA, o1, g, o2, o3, o4, o5, o6, o7⟩ := u6 c0
  obtain ⟨ll', ad', NA', q1, q2, q3, q4, q5, q6, q7⟩ := x3 c0
  obtain ⟨e1, e2, e3⟩ := lnX_u o1 q1
  subst e1
  subst e2
  subst e3
  have f11 : fI τ' 1711 1 = fI τ4 1711 1 := hp_gI (ci := 10) (ob_ex (G1711 hS) u2) (G1711 hC'.1) rfl (by decide) D4
  have f12 : eI τ' 1712 = eI τ4 1712 := hp_A (ar_ex (G1712 hS) u2) (G1712 hC'.1) (Or.inl rfl) D4
  have hck : CKZ τ' Y'.1.2.1 Y'.1.2.2 := hC'.2.2.2.2.2.2.2.2.1.2 ha0
  have hlk : LKZ σ' Y'.1.2.1 Y'.1.2.2 := hR'.2.2.2.2.2.2.2.1.2.2.2.2 ha0
  have e15 : fI τ' 147 15 = nI Y'.2.2.2.2.length := ((CV_X hC').2 ha0).2.2.2.1
  obtain ⟨⟨_, _⟩, _, _, k5, k6, k7⟩ := (RV_X hR').2 ha0
  have CL := z4.2.2.2.1.2.1
  have ho := y4.1.2.2.2.1
  have f15 : fI τ' 147 15 = fI τ1 147 15 := hp_gI (ci := 3) (ob_ex (G147 hS) z2) (G147 hC'.1) rfl (by decide) D1
  have elen : s.1.2.2.1.length = Y'.2.2.2.2.length := (nI_eq (by have := ho.2.1; omega) (by omega)).mp (CL.2.2.1.symm.trans (f15.symm.trans e15))
  have hxl : (xsN s).length ≤ 4128 := by have := CL.1.2.2.2.1; rw [List.length_map] at this; exact this
  refine ⟨⟨_, _, _, o3.1, f11.trans o3.2.1, hlk.2.1.trans (hck.2.1.symm.trans (f11.trans o3.2.1)), o5, EX7_lo o4.1 (fun i hi => by rw [f12]; exact o3.2.2 i (by omega)), by rw [p2f.2.1]; exact q4.1, o6, fun i h1 h2 => by rw [f12, p2f.2.1]; exact (o3.2.2 i h2).trans ((o7 i h1 h2).trans (q7 i h1 h2).2.symm)⟩, hR'.2.2.2.2.2.2.2.2.2.1, Y'.2.2.2.2.length, k6, e15, k5, fun i hi => ?_, fun i d hi hd h4 => ?_⟩
  · obtain ⟨d, hd⟩ : ∃ d, s.1.2.2.1[i]? = some d := ⟨_, List.getElem?_eq_getElem (by omega)⟩
    obtain ⟨d1, d2⟩ := CL.2.2.2 i d hd
    have hx : (xsN s)[d]? = some (xsN s)[d] := List.getElem?_eq_getElem d1
    have hst := y4.2.2.2.2.1.2 d (List.mem_of_getElem? hd)
    have est : stN (xsN s) d = ((xsN s)[d]).2.1 := by
      unfold stN
      rw [List.getD_eq_getElem?_getD, hx]
      rfl
    rw [est] at hst
    have hc9 := (CL.2.1 d _ hx).1.2.2.1.2 hst
    have hN : eN τ' 1693 i = eN τ1 1693 i := hp_N (ar_ex (G1693 hS) z2) (G1693 hC'.1) (Or.inr (Or.inl rfl)) (by decide) (by decide) (by omega) (by omega) D1
    have hp : eN τ' 1693 i = some (pN τ1 149 d) := hN.trans d2
    have o5 : ob sk1 L1 5 (pN τ1 149 d) := (CL.1.2.2.2.2.2.2 d _ (by rw [List.getElem?_map, hx]; rfl)).2.2.1
    have o6 := (CV_od hC' _ i _ k6 e15 hi hp).1
    refine ⟨_, hp, ?_⟩
    rw [hp_gI (ci := 5) o5 o6 rfl (by decide) D1]
    exact hc9
  · obtain ⟨d0, hd0⟩ : ∃ d, s.1.2.2.1[i]? = some d := ⟨_, List.getElem?_eq_getElem (by omega)⟩
    have d1 := (CL.2.2.2 i d0 hd0).1
    have e49 : gA σ' 49 i = nI d0 := (p3f.2.2.2 i (by omega)).1.trans (ho.2.2 i d0 hd0)
    have ed : d = d0 := (nI_eq (by omega) (by omega)).mp (hd.symm.trans e49)
    rw [(p2f.2.2.2 d h4).2, ed]
    exact q6 i d0 hd0
theorem Z_link {rc : Bool} (hK : KT c) (hF : 65540 < F) (hz : ZO sk L τ σ) (hC : CV sk L own τ fs gs ws n b a Y) (hR : RV σ fs gs ws n b a Y) (hm : RMk sk L (k + 210)) (hN : n + (fs.map Prod.fst).sum ≤ N) (hs : (fs.map Prod.fst).sum ≤ 4096) : BTO (fun (v w : Int32) _ => v = w) (fun _ _ => False) sk L τ k N (f_H_link F c 0 (bI rc) (cH sk L τ)) none (fun h => f_M_link F 1726 (bI rc) (mh 1726 h σ)) := by
  have hr := hR.2.1
  have hB : RB σ (fun x => b8 (gA σ 6 x)) := ⟨hr.2.2.1, fun _ => rfl⟩
  have hBF := BFs_RF hr
  have hrm := rmT_b (RF_FSo hr) hs
  have hm' : RMk sk L (k + rmT fs [] + 32) := RMk_le hm (by omega)
  refine BTO_of (B_link hK hF hC hR hm hN hs) (fun v' sk' L' τ' own' fs' gs' ws' n' b' a' Y' h w σ' e ex hC' hl q0 hR' _ => ?_) (fun _ _ _ _ _ _ _ _ _ _ _ _ _ e => by cases e)
  obtain ⟨σ3, j, s, _, _, _, y1, _, y2, _⟩ := u_link (rc := rc) (F := F) (m := 1726) (h := h) hl hF hR hB hs
  obtain ⟨sk1, L1, τ1, own1, ST, rn, ll, ad, NA, z1, _⟩ := v_runLink (F := F) (c := c) (k := k) hF hK hC hm' hs hBF y2
  have e1 : f_H_link F c 0 (bI rc) (cH sk L τ) = some (nI j, cH sk1 L1 τ1) := by
    unfold f_H_link
    rw [c_o (G0 hC.1), bs, z1, xb_mk]
  rw [(out_eq e1 e).2] at z1
  exact ZK_link hK hF hz hC hR hm' hs hB hBF z1 ex hC' hl q0 hR'
end ZLO
end
section
/-! merge: both sides -/
theorem ne_v16 {f : Nat → Int32} {z : Nat} (h : 64 ≤ z → vAt f 16 2 1) : xrX (fun i => if i < z then b8 (f i) else 0) z = 1 := by
  by_cases c : 64 ≤ z
  · refine ne_16 (fun e => ?_)
    have w := vAt_le (b := fun i => if i < z then b8 (f i) else 0) (h c) (fun i h1 h2 => by
      show (if i < z then b8 (f i) else 0) = b8 (f i)
      rw [if_pos (by omega)])
    rw [w] at e
    exact absurd e (by decide)
  · exact xrX_sm (by omega)
section ZLP
variable {F : Nat} {c : px_CT} {sk sk' : Nat → Nat × Nat × Nat} {L L' : Nat} {own own' : Nat → Nat × Nat} {τ τ' : px_TT} {σ σ' : px_S} {fs fs' : List (Nat × (Nat → Nat))} {gs gs' : List (List Nat × Int64)} {ws ws' : List (List Nat)} {n n' : Nat} {b b' : Nat → Nat} {a a' : Int32} {Y Y' : px_Y} {k N : Nat}
/-- the class's merge: what it leaves -/
theorem k_mergeO {B : Nat → Nat} {s : px_TK} {j : Nat} (hF : 65540 < F) (hc : KT c) (h : CV sk L own τ fs gs ws n b a Y) (hm : RMk sk L (k + rmT fs [] + 32)) (hsum : (fs.map Prod.fst).sum ≤ 4096) (hB : BFs fs B) (hln : lnR fs gs ws false B s j) : ∃ sk1 L1 τ1 own1 ll ad NA τ2, f_H_runLink F c 0 (bI false) (cH sk L τ) = some (nI j, cH sk1 L1 τ1) ∧ EX sk L sk1 L1 ∧ CV sk1 L1 own1 τ1 fs gs ws n b (nI j) (lnY fs s ll ad NA) ∧ (j = 0 → lnX fs s false B ll ad NA) ∧ f_H_merge F c 0 (cH sk L τ) = some (mgV fs s j, cH sk1 L1 τ2) ∧ SI none sk1 L1 τ1 τ2 ∧ ((j ≠ 1 ∧ mgB s.2.2.1.length (tB fs s.2.2.1) (stW fs s) (lfN (xsN s)) (xsN s).length = true) → KOm τ1 τ2 ∧ NEc τ2) ∧ (¬ (j ≠ 1 ∧ mgB s.2.2.1.length (tB fs s.2.2.1) (stW fs s) (lfN (xsN s)) (xsN s).length = true) → ∃ ro, fN τ1 0 1 = some ro ∧ fN τ2 0 1 = some ro ∧ KDr ro τ1 τ2) := by
  obtain ⟨sk', L', τ1, own', ST, rn, ll, ad, NA, e, a1, a2, a3, a5, a6, a7, a8, a9⟩ := v_runLink (F := F) (c := c) hF hc h hm hsum hB hln
  have h4 := CV_S4 a3
  have hI := SI_self a3
  have h0 := h4.1.1.1
  have h3 : S3 sk' L' own' τ1 fs s (xsN s) ST rn ws := ⟨h4.1, a5, a6, a3.2.2.2.2.2.1⟩
  have ha4 := lnR_le hln a5.2.2.2.2.1.1.1
  have hFSo := CF_FSo a3.2.2.2.1
  have hgl : gs.length ≤ 16 := by have := a3.2.2.2.2.1.1.2.2.2.1; rw [List.length_map] at this; exact this
  have hwl : ws.length ≤ 16 := a3.2.2.2.2.2.1.2.2.2.1
  have eST : ST = stW fs s := by funext x; exact a9 rfl x
  have hnds : (s.1.2.1.map Prod.fst).Nodup := a5.2.2.2.2.1.2.2.2.1
  have hws : ∀ v, v ∈ ws → v ∈ (xsN s).map Prod.fst := fun v hv => by
    rw [xsN_fst, hln.1]
    exact txs_0 hFSo ((ST0_xs (gs := gs) (ws := ws) hgl hwl).2 v hv)
  have hlen : (xsN s).length = s.1.2.1.length := by
    have := congrArg List.length (xsN_fst (s := s))
    rw [List.length_map, List.length_map] at this
    exact this
  have hod : ∀ d, d ∈ s.1.2.2.1 → d < (xsN s).length := fun d hd => by rw [hlen]; exact a5.2.2.2.2.1.2.2.2.2 d hd
  have hall : ∀ i, i < (xsN s).length → mgC fs s (xsN s) ws s.1.2.2.1.length ws.length s.2.2.1.length 0 i := fun i hi => by
    obtain ⟨v, hv⟩ : ∃ v, (s.1.2.1.map Prod.fst)[i]? = some v := ⟨_, List.getElem?_eq_getElem (by rw [List.length_map, ← hlen]; exact hi)⟩
    have hmem : v ∈ s.1.2.1.map Prod.fst := List.mem_of_getElem? hv
    have hpl : plc v ((xsN s).map Prod.fst) = i := by
      rw [xsN_fst]
      exact (List.getElem?_inj (plc_lt hmem) hnds).mp ((plc_get hmem).trans hv.symm)
    rcases nm_or hFSo hln.1 hnds hv with w1 | w1 | ⟨t, q, w1, o, n', b', j, w2, w3, w4, w5, w6⟩
    · obtain ⟨kk, hkk⟩ := List.mem_iff_getElem?.mp w1
      exact Or.inl ⟨kk, (List.getElem?_eq_some_iff.mp hkk).1, hkk⟩
    · obtain ⟨kk, hkk⟩ := List.mem_iff_getElem?.mp w1
      exact Or.inr (Or.inl ⟨kk, v, (List.getElem?_eq_some_iff.mp hkk).1, hkk, hpl.symm⟩)
    · have ht := (List.getElem?_eq_some_iff.mp w1).1
      have eb : tB fs s.2.2.1 t = b' := by
        unfold tB obT
        rw [w1]
        show ((obAt fs q).getD (0, 0, fun _ => 0, false)).2.2.1 = b'
        rw [w2]
        rfl
      have hy := (TKe_ys a5 t ht).2.2
      refine Or.inr (Or.inr ⟨t, j, Or.inl ht, ht, by rw [eb] at hy; omega, ?_, ?_⟩)
      · rw [eb]; unfold hsN; exact decide_eq_true ⟨w3, w4, w5⟩
      · rw [eb, w6]; exact hpl.symm
  obtain ⟨rd, A, hT, e2⟩ := CV_rd a3
  obtain rfl : A = rd + 1 := by unfold TRw at hT; omega
  obtain ⟨ro, rd', hcc, r1, r2⟩ := hI.2.2.1.1
  obtain rfl : rd' = rd := by
    rw [e2] at r2
    exact (Option.some.inj r2).symm
  have hro : ro = 3 ∨ ro = 5 := by omega
  have o0 := G0 h0.1
  by_cases c1 : j = 1
  · refine ⟨sk', L', τ1, own', ll, ad, NA, τ1, e, a1, a3, a8, ?_, hI, fun q => absurd c1 q.1, fun _ => ⟨ro, r1, r1, KOm_refl, rfl, rfl⟩⟩
    unfold f_H_merge mgV
    rw [c_o (G0 h.1), bs, show nI 0 = bI false from rfl, e, xb_mk, if_pos (show nI j = nI 1 by rw [c1]), if_pos c1, c1]
  · have w := z_mergedX (F := F) (c := c) (r := rd') (τ := τ1) h3 hc hF hT (fun x => by rw [eST]; rfl) hall hws hod hI
    rw [eST] at w
    obtain ⟨v, τ2, em, hv, i2, hM7⟩ := w
    have hv : v = bI (mgB s.2.2.1.length (tB fs s.2.2.1) (stW fs s) (lfN (xsN s)) (xsN s).length) := hv
    have hM7 : mgB s.2.2.1.length (tB fs s.2.2.1) (stW fs s) (lfN (xsN s)) (xsN s).length = true → MG7 rd' τ2 := hM7
    have wj := jsf_merged (F := F) (c := c) (r := rd') (wq := ro) (τ := τ1) h3 hc hF (by unfold RWj; omega) (SJ_of hI MEs_refl OUs_refl)
    have kd := KO_draft a3 i2 hro em wj
    have n1 : ∀ k, k = 1 ∨ k = 2 → fN τ2 0 k = fN τ1 0 k := fun k hk => by
      obtain ⟨v4, τ4, e4, _, hJ⟩ := wj
      have eh := (out_eq e4 em).2
      have ou := (SJ_O hJ hro).2.2 k
      obtain ⟨ro2, rd2, _, q1, q2⟩ := i2.2.2.1.1
      rcases hk with rfl | rfl
      · exact (hp_gR (ci := 0) (G0 h0.1) (G0 h0.1) rfl (by decide) eh (ou.trans r1) q1).trans ou
      · exact (hp_gR (ci := 0) (G0 h0.1) (G0 h0.1) rfl (by decide) eh (ou.trans e2) q2).trans ou
    cases hB2 : mgB s.2.2.1.length (tB fs s.2.2.1) (stW fs s) (lfN (xsN s)) (xsN s).length with
    | false =>
      refine ⟨sk', L', τ1, own', ll, ad, NA, τ2, e, a1, a3, a8, ?_, i2, fun q => (by cases q.2), fun _ => ⟨ro, r1, (n1 1 (Or.inl rfl)).trans r1, kd⟩⟩
      unfold f_H_merge mgV
      rw [c_o (G0 h.1), bs, show nI 0 = bI false from rfl, e, xb_mk, if_neg (fun w => c1 ((nI_eq (by omega) (by decide)).mp w)), if_neg c1, C0r15 o0 (GR_r (v := 1713) h0.2.1 (by decide)), bs, C0r2 o0 e2, bs, c_o (G1713 h0.1), bs, em, xb_mk, hv, hB2, if_pos (show bI false = 0 from rfl), if_neg (by decide)]
    | true =>
      obtain ⟨τ3, e3, i3, p1, p2, p3⟩ := z_publishX (F := F) (c := c) a3 i2 ((n1 2 (Or.inr rfl)).trans e2)
      obtain ⟨z, hz, ez⟩ := (SI_row i2 hT).2.2.2.2.1
      have em' : f_H_merge F c 0 (cH sk L τ) = some (mgV fs s j, cH sk' L' τ3) := by
        unfold f_H_merge mgV
        rw [c_o (G0 h.1), bs, show nI 0 = bI false from rfl, e, xb_mk, if_neg (fun w => c1 ((nI_eq (by omega) (by decide)).mp w)), if_neg c1, C0r15 o0 (GR_r (v := 1713) h0.2.1 (by decide)), bs, C0r2 o0 e2, bs, c_o (G1713 h0.1), bs, em, xb_mk, hv, hB2, if_neg (show ¬ bI true = 0 by decide), if_pos rfl, c_o o0, bs, e3, xb_mk]
      refine ⟨sk', L', τ1, own', ll, ad, NA, τ3, e, a1, a3, a8, em', i3, fun _ => ⟨KOm_tr kd.1 ?_, rd', z, p1, hz, p2.trans ez, ?_⟩, fun q => absurd ⟨c1, rfl⟩ q⟩
      · obtain ⟨v4, τ4, e4, _, hJ⟩ := jsf_publish (F := F) (c := c) (τ0 := τ2) (τ := τ2) (zb := none) (CV_S4 (CV_SI a3 i2)).1.1.1 (SJ_of (SI_self (CV_SI a3 i2)) MEs_refl OUs_refl)
        have C4 := CV_SI (CV_SI a3 i2) (SJ_I hJ)
        have C3 := CV_SI a3 i3
        exact KOm_tr (KOm_SJ hJ) (KOm_H C4.1 C3.1 C4.2.1 C3.2.1 (out_eq e4 e3).2)
      · rw [p3]
        exact ne_v16 (hM7 hB2 z hz ez)
/-- the same heaps: the same relation -/
theorem ZTr2 {τ2 : px_TT} {σ2 : px_S} {h : px_H} (hz : ZO sk L τ2 σ2) (C2 : CV sk L own τ2 fs gs ws n b a Y) (hC' : CV sk' L' own' τ' fs' gs' ws' n' b' a' Y') (v2 : cH sk L τ2 = cH sk' L' τ') (hl : 1726 ≤ h.length) (w2 : mh 1726 h σ2 = mh 1726 h σ') : ZO sk' L' τ' σ' := by
  obtain ⟨ro, _, r1, _⟩ := CV_out C2
  obtain ⟨ro', _, r1', _⟩ := CV_out hC'
  have j1 := KOo_H C2.1 hC'.1 C2.2.1 hC'.2.1 ⟨ro, r1⟩ ⟨ro', r1'⟩ v2
  have j2 := KOm_H C2.1 hC'.1 C2.2.1 hC'.2.1 v2
  have j3 := KOf_H C2.1 hC'.1 v2 (fun m i p hm e hi hp => ⟨(CV_od C2 m i p hm e hi hp).1, (CV_od hC' m i p hm ((hp_gI (ci := 3) (G147 C2.1) (G147 hC'.1) rfl (by decide) v2).trans e) hi ((hp_N (G1693 C2.1) (G1693 hC'.1) (Or.inr (Or.inl rfl)) (by decide) (by decide) (by omega) (by omega) v2).trans hp)).1⟩)
  exact ZO_mh hl (ZO_K hz hC'.1 j1 j2 (fun _ => j3)) w2
theorem NEr_v {z : Nat} (hz : z ≤ 65536) (h4 : gI σ 4 = nI z) (h : vAt (gA σ 3) 16 2 1) : NEr σ := ⟨z, hz, h4, by rw [cb_z0]; exact ne_v16 (fun _ => h)⟩
theorem Z_merge (hK : KT c) (hF : 65540 < F) (hz : ZO sk L τ σ) (hC : CV sk L own τ fs gs ws n b a Y) (hR : RV σ fs gs ws n b a Y) (hm : RMk sk L (k + 210)) (hN : n + (fs.map Prod.fst).sum ≤ N) (hs : (fs.map Prod.fst).sum ≤ 4096) : BTO (fun (v w : Int32) _ => v = w) (fun _ _ => False) sk L τ k N (f_H_merge F c 0 (cH sk L τ)) none (fun h => f_M_merge F 1726 (mh 1726 h σ)) := by
  have hr := hR.2.1
  have hB : RB σ (fun x => b8 (gA σ 6 x)) := ⟨hr.2.2.1, fun _ => rfl⟩
  have hBF := BFs_RF hr
  have hrm := rmT_b (RF_FSo hr) hs
  have hm' : RMk sk L (k + rmT fs [] + 32) := RMk_le hm (by omega)
  have hnd : (gs.map Prod.fst).Nodup := hC.2.2.2.2.2.2.2.2.2.1.1
  refine BTO_of (Bx_merge hK hF hC hR hm hN hs) (fun v' sk' L' τ' own' fs' gs' ws' n' b' a' Y' h w σ' e ex hC' hl q0 hR' _ => ?_) (fun _ _ _ _ _ _ _ _ _ _ _ _ _ e => by cases e)
  obtain ⟨σL, j, s, ll, ad, NA, y1, hj, y2, y3, y4⟩ := u_link (rc := false) (F := F) (m := 1726) (h := h) hl hF hR hB hs
  obtain ⟨σ1, σ2, j2, s2, x1, x2, x3, x4, x5, x6⟩ := u_mergeO (F := F) (m := 1726) (h := h) hl hF hR hnd hB hs
  have es : s2 = s := x3.1.trans y2.1.symm
  obtain ⟨E1, E1'⟩ := out_eq y1 x1
  rw [es] at x3 x4 x5
  obtain ⟨_, _, _, _, _, _, _, _, _, _, _, _, _, b5, _⟩ := v_runLink (F := F) (c := c) (k := k) hF hK hC hm' hs hBF y2
  have hj2 : j2 ≤ 4 := lnR_le x3 b5.2.2.2.2.1.1.1
  have ej : j2 = j := (nI_eq (by omega) (by omega)).mp E1.symm
  rw [ej] at x4 x5
  obtain ⟨sk1, L1, τ1, own1, ll1, ad1, NA1, τ2, z1, z2, z3, z4, z5, z6, z7, z8⟩ := k_mergeO (F := F) (c := c) (k := k) hF hK hC hm' hs hBF y2
  have hz1 : ZO sk1 L1 τ1 σL := ZK_link hK hF hz hC hR hm' hs hB hBF z1 z2 z3 hl y1 (RV_Y y3 hj (fun c0 => lnX_u (y4 c0) (z4 c0)))
  have hz2 : ZO sk1 L1 τ1 σ1 := ZO_mh hl hz1 E1'
  have C2 := CV_SI z3 z6
  by_cases cT : j ≠ 1 ∧ mgB s.2.2.1.length (tB fs s.2.2.1) (stW fs s) (lfN (xsN s)) (xsN s).length = true
  · obtain ⟨k1, ne⟩ := z7 cT
    obtain ⟨cc, c1, c2, c3⟩ := x4 cT
    exact ZTr2 (ZN hz2 z3 z6 k1 ne x6 (by decide) (by decide) (by decide) (NEr_v c1 c2 c3)) C2 hC' (out_eq z5 e).2 hl (out_eq x2 q0).2
  · obtain ⟨ro, r1, r2, kd⟩ := z8 cT
    exact ZTr2 ⟨ZM_R (ZM_K hz2.1 C2.1 kd.1) (KRm_FR x6 (by decide) (by decide) (by decide)), ZU_R (ZU_dr hz2.2.1 z3 C2 r1 r2 kd) (x5 cT), fun w => ZF_R (ZF_K (hz2.2.2 ((x6.1 13 (by decide)).symm.trans w)) (KOf_SI z3 z6)) (KRf_FR x6 (by decide) (by decide))⟩ C2 hC' (out_eq z5 e).2 hl (out_eq x2 q0).2
end ZLP
end
section
/-! between the law's calls: the reference's cells change, the first state -/
section ZLR
variable {sk sk' : Nat → Nat × Nat × Nat} {L L' : Nat} {own : Nat → Nat × Nat} {τ τ' : px_TT} {σ : px_S} {fs : List (Nat × (Nat → Nat))} {gs : List (List Nat × Int64)} {ws : List (List Nat)} {n : Nat} {b : Nat → Nat} {a : Int32} {Y : px_Y}
theorem ZO_M (hz : ZO sk L τ σ) (hC : CV sk L own τ fs gs ws n b a Y) (e : EX sk L sk' L') (hA : ∀ x, (x < 1726 ∨ 1815 ≤ x) → agr τ τ' x) : ZO sk' L' τ' σ := by
  have hS : GS sk' L' := (CV_M hC e hA).1
  have I : ∀ x k, (x < 1726 ∨ 1815 ≤ x) → fI τ' x k = fI τ x k := fun x k hx => (hA x hx).1 k
  have Nn : ∀ x k, x < 1726 → fN τ' x k = fN τ x k := fun x k hx => (hA x (Or.inl hx)).2.2.1 k
  have Ei : ∀ x, x < 1726 → eI τ' x = eI τ x := fun x hx => (hA x (Or.inl hx)).2.2.2.1
  have Ej : ∀ x, x < 1726 → eJ τ' x = eJ τ x := fun x hx => (hA x (Or.inl hx)).2.2.2.2.1
  exact ZO_K hz hS ⟨Nn 0 1 (by decide), fun r hr => ⟨I r 1 (by omega), Nn r 0 (by omega), Ei (r + 1) (by omega)⟩⟩ ⟨⟨I 1719 1 (by omega), Nn 1719 0 (by decide), Ei 1720 (by decide)⟩, fun k _ => I 1718 k (by omega), Ei 1724 (by decide), fun x i h1 h2 _ _ => by rw [Ej x (by omega)]⟩ (fun _ => ⟨⟨I 1711 1 (by omega), Ei 1712 (by decide)⟩, I 147 15 (by omega), fun m i hm e15 hi => ⟨by rw [(hA 1693 (by omega)).2.2.2.2.2], fun p hp => I p 9 (Or.inr (CV_od hC m i p hm e15 hi hp).2)⟩⟩)
theorem ZO_init (hC : CV sk L own τ fs gs ws n b a Y) (h1 : fN τ 0 1 = some 3) (h2 : fI τ 3 1 = nI 0) (h3 : fI τ 1718 6 = nI 0) (h4 : fI τ 1718 9 = nI 0) (g4 : gI σ 4 = nI 0) (g102 : gI σ 102 = nI 0) (g44 : gI σ 44 = nI 0) (g13 : gI σ 13 = Int32.ofInt (-1)) : ZO sk L τ σ := by
  refine ⟨⟨[], (0, 0, 0, 0), 0, fun _ => 0, ⟨⟨h3, by decide, fun i w hw => (by cases hw)⟩, ⟨h4, fun w => absurd w (by decide)⟩, by decide, fun w => absurd w (by decide)⟩, ⟨g102, by decide, fun i w hw => (by cases hw)⟩, ?_, fun h => absurd rfl h⟩, ZU_e hC h1 h2 (by decide) g4 (by decide), fun w => ?_⟩
  · rw [nvQ_0 (b := fun _ => 0) (q := (0, 0, 0, 0)) (by decide)]
    exact ⟨g44, by decide, fun i hi => absurd hi (Nat.not_lt_zero i), fun i v hv => (by cases hv)⟩
  · rw [g13] at w
    exact absurd w (by decide)
end ZLR
end
