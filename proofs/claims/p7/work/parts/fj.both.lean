/-! a call of the class and the same call of the reference (steps spelled out by sf/pp.py) -/
/-- f: what the class answers, g: what it throws (the exception's class), q: what the reference answers -/
def BT {α β : Type} (Rn : α → β → px_S → Prop) (Rt : Nat → px_S → Prop) (sk : Nat → Nat × Nat × Nat) (L : Nat) (τ : px_TT) (k N : Nat) (f : Option (α × px_H)) (g : Option (Nat × px_H)) (q : px_H → Option (β × px_H)) : Prop := ∃ fs gs ws n b a Y, n + (List.map Prod.fst fs).sum ≤ N ∧ ((∃ v sk' L' τ' own', f = some (v, cH sk' L' τ') ∧ EX sk L sk' L' ∧ K26 τ τ' ∧ RMk sk' L' k ∧ CV sk' L' own' τ' fs gs ws n b a Y ∧ ∀ h : px_H, 1726 ≤ h.length → ∃ w σ', q h = some (w, mh 1726 h σ') ∧ RV σ' fs gs ws n b a Y ∧ Rn v w σ') ∨ ∃ ci τ' own', g = some (ci, cH sk L τ') ∧ K26 τ τ' ∧ RMk sk L (k + 1) ∧ CV sk L own' τ' fs gs ws n b a Y ∧ ∀ h : px_H, 1726 ≤ h.length → ∃ w σ', q h = some (w, mh 1726 h σ') ∧ RV σ' fs gs ws n b a Y ∧ Rt ci σ')
theorem BT_mono {α β : Type} {Rn Rn' : α → β → px_S → Prop} {Rt Rt' : Nat → px_S → Prop} {sk : Nat → Nat × Nat × Nat} {L : Nat} {τ : px_TT} {k N : Nat} {f : Option (α × px_H)} {g : Option (Nat × px_H)} {q : px_H → Option (β × px_H)} (h : BT Rn Rt sk L τ k N f g q) (h1 : ∀ v w σ, Rn v w σ → Rn' v w σ) (h2 : ∀ c σ, Rt c σ → Rt' c σ) : BT Rn' Rt' sk L τ k N f g q := by
  obtain ⟨fs, gs, ws, n, b, a, Y, hN, h⟩ := h
  refine ⟨fs, gs, ws, n, b, a, Y, hN, ?_⟩
  rcases h with ⟨v, sk', L', τ', own', e1, e2, e3, e4, e5, e6⟩ | ⟨ci, τ', own', e1, e2, e3, e4, e5⟩
  · refine Or.inl ⟨v, sk', L', τ', own', e1, e2, e3, e4, e5, fun h hl => ?_⟩
    obtain ⟨w, σ', a1, a2, a3⟩ := e6 h hl
    exact ⟨w, σ', a1, a2, h1 _ _ _ a3⟩
  · refine Or.inr ⟨ci, τ', own', e1, e2, e3, e4, fun h hl => ?_⟩
    obtain ⟨w, σ', a1, a2, a3⟩ := e5 h hl
    exact ⟨w, σ', a1, a2, h2 _ _ a3⟩
theorem RMk_le {sk : Nat → Nat × Nat × Nat} {L k k' : Nat} (h : RMk sk L k') (hk : k ≤ k') : RMk sk L k := by
  unfold RMk at *
  omega
theorem nI_18 {y : Int32} (h1 : ¬ y < nI 1) (h2 : y ≤ nI 8) : ∃ w, 1 ≤ w ∧ w ≤ 8 ∧ y = nI w := by
  rw [Int32.lt_iff_toInt_lt] at h1
  rw [Int32.le_iff_toInt_le] at h2
  have e1 : (nI 1).toInt = 1 := by decide
  have e8 : (nI 8).toInt = 8 := by decide
  rw [e1] at h1
  rw [e8] at h2
  have h0 : ¬ y < 0 := by
    rw [Int32.lt_iff_toInt_lt]
    have e0 : (0 : Int32).toInt = 0 := by decide
    omega
  obtain ⟨k, hk, rfl⟩ := nI_of h0
  rw [nI_toInt hk] at h1 h2
  exact ⟨k, by omega, by omega, rfl⟩
abbrev Rn0 {α β : Type} : α → β → px_S → Prop := fun _ _ _ => True
section BTH
variable {F : Nat} {c : px_CT} {sk sk' : Nat → Nat × Nat × Nat} {L L' : Nat} {own : Nat → Nat × Nat} {τ τ' : px_TT} {σ : px_S} {fs : List (Nat × (Nat → Nat))} {gs : List (List Nat × Int64)} {ws : List (List Nat)} {n : Nat} {b : Nat → Nat} {a : Int32} {Y : px_Y} {k N : Nat}
theorem BT_SI {α β : Type} {V : α → Prop} {Rt : Nat → px_S → Prop} {f : Option (α × px_H)} {g : Option (Nat × px_H)} {q : px_H → Option (β × px_H)} (hC : CV sk L own τ fs gs ws n b a Y) (hm : RMk sk L (k + 210)) (hN : n + (fs.map Prod.fst).sum ≤ N) (w : Sf sk L (SI none sk L τ) V f) (u : ∀ h : px_H, 1726 ≤ h.length → UM 1726 h fs gs ws n b a Y (q h)) : BT Rn0 Rt sk L τ k N f g q := by
  obtain ⟨v, τ', e, _, hI⟩ := w
  refine ⟨fs, gs, ws, n, b, a, Y, hN, Or.inl ⟨v, sk, L, τ', own, e, EX_refl, K26_Z hI.1, RMk_le hm (by omega), CV_SI hC hI, fun h hl => ?_⟩⟩
  obtain ⟨w, σ', e1, e2⟩ := u h hl
  exact ⟨w, σ', e1, e2, trivial⟩
theorem BT_T {α β : Type} {Rt : Nat → px_S → Prop} {Rn : α → β → px_S → Prop} {f : Option (α × px_H)} {g : Option (Nat × px_H)} {q : px_H → Option (β × px_H)} {ci : Nat} (hC : CV sk L own τ fs gs ws n b a Y) (hm : RMk sk L (k + 210)) (hN : n + (fs.map Prod.fst).sum ≤ N) (hg : g = some (ci, cH sk L τ)) (hR : ∀ σ, Rt ci σ) (u : ∀ h : px_H, 1726 ≤ h.length → UM 1726 h fs gs ws n b a Y (q h)) : BT Rn Rt sk L τ k N f g q := by
  refine ⟨fs, gs, ws, n, b, a, Y, hN, Or.inr ⟨ci, τ, own, hg, K26_refl τ, RMk_le hm (by omega), hC, fun h hl => ?_⟩⟩
  obtain ⟨w, σ', e1, e2⟩ := u h hl
  exact ⟨w, σ', e1, e2, hR _⟩
theorem B_look {x : Int32} (hF : 65540 < F) (hC : CV sk L own τ fs gs ws n b a Y) (hR : RV σ fs gs ws n b a Y) (hm : RMk sk L (k + 210)) (hN : n + (fs.map Prod.fst).sum ≤ N) : BT Rn0 (fun ci _ => ci = 13) sk L τ k N (f_H_look F c 0 x (cH sk L τ)) (g_H_look F c 0 x (cH sk L τ)) (fun h => f_M_look F 1726 x (mh 1726 h σ)) := by
  by_cases c1 : x < 0
  · exact BT_T hC hm hN (by unfold g_H_look g_H_look_10; rw [if_pos c1]) (fun _ => rfl) (fun h hl => u_look hl hR)
  · by_cases c2 : x ≤ nI 18
    · exact BT_SI hC hm hN (sf_Hlook (CV_S4 hC).1.1.1 hF (SI_self hC) c1 c2) (fun h hl => u_look hl hR)
    · exact BT_T hC hm hN (by unfold g_H_look g_H_look_10; rw [if_neg c1, if_neg c2]) (fun _ => rfl) (fun h hl => u_look hl hR)
theorem B_out {x : Int32} (hF : 65540 < F) (hC : CV sk L own τ fs gs ws n b a Y) (hR : RV σ fs gs ws n b a Y) (hm : RMk sk L (k + 210)) (hN : n + (fs.map Prod.fst).sum ≤ N) : BT Rn0 (fun ci _ => ci = 15) sk L τ k N (f_H_out F c 0 x (cH sk L τ)) (g_H_out F c 0 x (cH sk L τ)) (fun h => f_M_out F 1726 x (mh 1726 h σ)) := by
  rcases sf_Hout (F := F) (c := c) (i := x) (CV_S4 hC).1.1.1 hF (SI_self hC) with c1 | ⟨r, e1, e2, e3⟩ | w
  · exact BT_T hC hm hN (by unfold g_H_out g_H_out_15; rw [if_pos c1]) (fun _ => rfl) (fun h hl => u_out hl hF hR)
  · refine BT_T hC hm hN ?_ (fun _ => rfl) (fun h hl => u_out hl hF hR)
    unfold g_H_out g_H_out_15
    by_cases c1 : x < 0
    · rw [if_pos c1]
    · rw [if_neg c1, C0r1 (G0 hC.1) e1, bs, C10g1 e2, bs, if_neg e3]
  · exact BT_SI hC hm hN w (fun h hl => u_out hl hF hR)
theorem B_taken {x y : Int32} (hC : CV sk L own τ fs gs ws n b a Y) (hR : RV σ fs gs ws n b a Y) (hm : RMk sk L (k + 210)) (hN : n + (fs.map Prod.fst).sum ≤ N) : BT Rn0 (fun ci _ => ci = 15) sk L τ k N (f_H_taken F c 0 x y (cH sk L τ)) (g_H_taken F c 0 x y (cH sk L τ)) (fun h => f_M_taken F 1726 x y (mh 1726 h σ)) := by
  rcases sf_Htaken (F := F) (c := c) (i := x) (k := y) (CV_S4 hC) (SI_self hC) with e | w
  · exact BT_T hC hm hN (by unfold g_H_taken; rw [c_o (G0 hC.1), bs, e, xb_mk]) (fun _ => rfl) (fun h hl => u_taken hl hR)
  · exact BT_SI hC hm hN w (fun h hl => u_taken hl hR)
theorem B_cause {x y : Int32} (hF : 65540 < F) (hC : CV sk L own τ fs gs ws n b a Y) (hR : RV σ fs gs ws n b a Y) (hm : RMk sk L (k + 210)) (hN : n + (fs.map Prod.fst).sum ≤ N) : BT Rn0 (fun ci _ => ci = 15) sk L τ k N (f_H_cause F c 0 x y (cH sk L τ)) (g_H_cause F c 0 x y (cH sk L τ)) (fun h => f_M_cause F 1726 x y (mh 1726 h σ)) := by
  rcases sf_Hcause (F := F) (c := c) (i := x) (k := y) (CV_S4 hC) hF (SI_self hC) with e | w
  · exact BT_T hC hm hN (by unfold g_H_cause; rw [c_o (G0 hC.1), bs, e, xb_mk]) (fun _ => rfl) (fun h hl => u_cause hl hF hR)
  · exact BT_SI hC hm hN w (fun h hl => u_cause hl hF hR)
theorem B_list {x y : Int32} (hF : 65540 < F) (hC : CV sk L own τ fs gs ws n b a Y) (hR : RV σ fs gs ws n b a Y) (hm : RMk sk L (k + 210)) (hN : n + (fs.map Prod.fst).sum ≤ N) : BT Rn0 (fun ci _ => ci = 15) sk L τ k N (f_H_list F c 0 x y (cH sk L τ)) (g_H_list F c 0 x y (cH sk L τ)) (fun h => f_M_list F 1726 x y (mh 1726 h σ)) := by
  rcases sf_Hlist (F := F) (c := c) (i := x) (k := y) (CV_S4 hC) hF (SI_self hC) with e | w
  · exact BT_T hC hm hN (by unfold g_H_list; rw [c_o (G0 hC.1), bs, e, xb_mk]) (fun _ => rfl) (fun h hl => u_list hl hF hR)
  · exact BT_SI hC hm hN w (fun h hl => u_list hl hF hR)
theorem B_sum {x y z : Int32} (hF : 65540 < F) (hC : CV sk L own τ fs gs ws n b a Y) (hR : RV σ fs gs ws n b a Y) (hm : RMk sk L (k + 210)) (hN : n + (fs.map Prod.fst).sum ≤ N) : BT Rn0 (fun ci _ => ci = 15) sk L τ k N (f_H_sum F c 0 x y z (cH sk L τ)) (g_H_sum F c 0 x y z (cH sk L τ)) (fun h => f_M_sum F 1726 x y z (mh 1726 h σ)) := by
  rcases sf_Hsum (F := F) (c := c) (i := x) (k := y) (g := z) (CV_S4 hC) hF (SI_self hC) with e | ⟨q, e, hz⟩ | w
  · exact BT_T hC hm hN (by unfold g_H_sum g_H_sum_22; rw [c_o (G0 hC.1), bs, e, xb_mk]) (fun _ => rfl) (fun h hl => u_sum hl hF hR)
  · refine BT_T hC hm hN ?_ (fun _ => rfl) (fun h hl => u_sum hl hF hR)
    unfold g_H_sum g_H_sum_22
    rw [c_o (G0 hC.1), bs, e, xb_mk]
    dsimp only
    by_cases c1 : z < 0
    · rw [if_pos c1]
    · rw [if_neg c1, if_neg (hz.resolve_left c1)]
  · exact BT_SI hC hm hN w (fun h hl => u_sum hl hF hR)
theorem B_section {x y : Int32} (hC : CV sk L own τ fs gs ws n b a Y) (hR : RV σ fs gs ws n b a Y) (hm : RMk sk L (k + 210)) (hN : n + (fs.map Prod.fst).sum ≤ N) : BT Rn0 (fun ci _ => ci = 14 ∨ ci = 15) sk L τ k N (f_H_section F c 0 x y (cH sk L τ)) (g_H_section F c 0 x y (cH sk L τ)) (fun h => f_M_section F 1726 x y (mh 1726 h σ)) := by
  have u : ∀ h : px_H, 1726 ≤ h.length → UM 1726 h fs gs ws n b a Y (f_M_section F 1726 x y (mh 1726 h σ)) := fun h hl => u_section hl hR
  have o0 := G0 hC.1
  have r11 := C0r11 (τ := τ) o0 (GR_r (v := 147) hC.2.1 (by decide))
  have r13 := C0r13 (τ := τ) o0 (GR_r (v := 1700) hC.2.1 (by decide))
  have g11 := C2g11 (τ := τ) (a := 1700) (GS_o hC.1 (by decide) (by decide))
  have g18 := C3g18 (τ := τ) (G147 hC.1)
  by_cases c0 : fI τ 147 18 = 0
  · by_cases c1 : x < 0
    · exact BT_T hC hm hN (by unfold g_H_section g_H_section_44; rw [r11, bs, g18, bs, if_pos c0, if_pos c1]) (fun _ => Or.inr rfl) u
    · by_cases c2 : fI τ 1700 11 ≤ x
      · exact BT_T hC hm hN (by unfold g_H_section g_H_section_44; rw [r11, bs, g18, bs, if_pos c0, if_neg c1, r13, bs, g11, bs, if_pos c2]) (fun _ => Or.inr rfl) u
      · by_cases c3 : y < 0
        · exact BT_T hC hm hN (by unfold g_H_section g_H_section_44; rw [r11, bs, g18, bs, if_pos c0, if_neg c1, r13, bs, g11, bs, if_neg c2, if_pos c3]) (fun _ => Or.inr rfl) u
        · by_cases c4 : y ≤ nI 4
          · exact BT_SI hC hm hN (sf_Hsection (CV_S4 hC) (SI_self hC) c0 c1 c2 c3 c4) u
          · exact BT_T hC hm hN (by unfold g_H_section g_H_section_44; rw [r11, bs, g18, bs, if_pos c0, if_neg c1, r13, bs, g11, bs, if_neg c2, if_neg c3, if_neg c4]) (fun _ => Or.inr rfl) u
  · exact BT_T hC hm hN (by unfold g_H_section; rw [r11, bs, g18, bs, if_neg c0]) (fun _ => Or.inl rfl) u
theorem B_place {x : Int32} (hC : CV sk L own τ fs gs ws n b a Y) (hR : RV σ fs gs ws n b a Y) (hm : RMk sk L (k + 210)) (hN : n + (fs.map Prod.fst).sum ≤ N) : BT Rn0 (fun ci _ => ci = 14 ∨ ci = 15) sk L τ k N (f_H_place F c 0 x (cH sk L τ)) (g_H_place F c 0 x (cH sk L τ)) (fun h => f_M_place F 1726 x (mh 1726 h σ)) := by
  have u : ∀ h : px_H, 1726 ≤ h.length → UM 1726 h fs gs ws n b a Y (f_M_place F 1726 x (mh 1726 h σ)) := fun h hl => u_place hl hR
  have o0 := G0 hC.1
  have r11 := C0r11 (τ := τ) o0 (GR_r (v := 147) hC.2.1 (by decide))
  have r13 := C0r13 (τ := τ) o0 (GR_r (v := 1700) hC.2.1 (by decide))
  have g11 := C2g11 (τ := τ) (a := 1700) (GS_o hC.1 (by decide) (by decide))
  have g18 := C3g18 (τ := τ) (G147 hC.1)
  by_cases c0 : fI τ 147 18 = 0
  · by_cases c1 : x < 0
    · exact BT_T hC hm hN (by unfold g_H_place g_H_place_35; rw [r11, bs, g18, bs, if_pos c0, if_pos c1]) (fun _ => Or.inr rfl) u
    · by_cases c2 : x < fI τ 1700 11
      · exact BT_SI hC hm hN (sf_Hplace (CV_S4 hC) (SI_self hC) c0 c1 c2) u
      · exact BT_T hC hm hN (by unfold g_H_place g_H_place_35; rw [r11, bs, g18, bs, if_pos c0, if_neg c1, r13, bs, g11, bs, if_neg c2]) (fun _ => Or.inr rfl) u
  · exact BT_T hC hm hN (by unfold g_H_place; rw [r11, bs, g18, bs, if_neg c0]) (fun _ => Or.inl rfl) u
theorem B_named (hK : KT c) (hF : 65540 < F) (hC : CV sk L own τ fs gs ws n b a Y) (hR : RV σ fs gs ws n b a Y) (hm : RMk sk L (k + 210)) (hN : n + (fs.map Prod.fst).sum ≤ N) : BT Rn0 (fun ci _ => ci = 14) sk L τ k N (f_H_named F c 0 (cH sk L τ)) (g_H_named F c 0 (cH sk L τ)) (fun h => f_M_named F 1726 (mh 1726 h σ)) := by
  by_cases c0 : fI τ 147 18 = 0
  · exact BT_SI hC hm hN (sf_Hnamed (CV_S4 hC).1 hK hF (SI_self hC) c0) (fun h hl => u_named hl hF hR)
  · exact BT_T hC hm hN (by unfold g_H_named; rw [C0r11 (G0 hC.1) (GR_r (v := 147) hC.2.1 (by decide)), bs, C3g18 (G147 hC.1), bs, if_neg c0]) (fun _ => rfl) (fun h hl => u_named hl hF hR)
theorem B_map (hF : 65540 < F) (hC : CV sk L own τ fs gs ws n b a Y) (hR : RV σ fs gs ws n b a Y) (hm : RMk sk L (k + 210)) (hN : n + (fs.map Prod.fst).sum ≤ N) : BT Rn0 (fun ci _ => ci = 14) sk L τ k N (f_H_map F c 0 (cH sk L τ)) (g_H_map F c 0 (cH sk L τ)) (fun h => f_M_map F 1726 (mh 1726 h σ)) := by
  by_cases c0 : fI τ 147 18 = 0
  · exact BT_SI hC hm hN (sf_Hmap (CV_S4 hC).1 hF (SI_self hC) c0) (fun h hl => u_map hl hF hR)
  · exact BT_T hC hm hN (by unfold g_H_map; rw [C0r11 (G0 hC.1) (GR_r (v := 147) hC.2.1 (by decide)), bs, C3g18 (G147 hC.1), bs, if_neg c0]) (fun _ => rfl) (fun h hl => u_map hl hF hR)
theorem B_near {x : Int64} (hF : 65540 < F) (hC : CV sk L own τ fs gs ws n b a Y) (hR : RV σ fs gs ws n b a Y) (hm : RMk sk L (k + 210)) (hN : n + (fs.map Prod.fst).sum ≤ N) : BT Rn0 (fun _ _ => False) sk L τ k N (f_H_near F c 0 x (cH sk L τ)) none (fun h => f_M_near F 1726 x (mh 1726 h σ)) := BT_SI hC hm hN (sf_Hnear (CV_S4 hC).1.1.1 hF (SI_self hC)) (fun h hl => u_near hl hF hR)
theorem B_peek {x : Int64} (hF : 65540 < F) (hC : CV sk L own τ fs gs ws n b a Y) (hR : RV σ fs gs ws n b a Y) (hm : RMk sk L (k + 210)) (hN : n + (fs.map Prod.fst).sum ≤ N) : BT Rn0 (fun _ _ => False) sk L τ k N (f_H_peek F c 0 x (cH sk L τ)) none (fun h => f_M_peek F 1726 x (mh 1726 h σ)) := BT_SI hC hm hN (sf_Hpeek (CV_S4 hC).1.1.1 hF (SI_self hC)) (fun h hl => u_peek hl hF hR)
theorem B_flags {x : Int64} (hF : 65540 < F) (hC : CV sk L own τ fs gs ws n b a Y) (hR : RV σ fs gs ws n b a Y) (hm : RMk sk L (k + 210)) (hN : n + (fs.map Prod.fst).sum ≤ N) : BT Rn0 (fun _ _ => False) sk L τ k N (f_H_flags F c 0 x (cH sk L τ)) none (fun h => f_M_flags F 1726 x (mh 1726 h σ)) := BT_SI hC hm hN (sf_Hflags (CV_S4 hC).1.1.1 hF (SI_self hC)) (fun h hl => u_flags hl hF hR)
theorem B_pack (hK : KT c) (hF : 65540 < F) (hC : CV sk L own τ fs gs ws n b a Y) (hR : RV σ fs gs ws n b a Y) (hm : RMk sk L (k + 210)) (hN : n + (fs.map Prod.fst).sum ≤ N) : BT Rn0 (fun _ _ => False) sk L τ k N (f_H_pack F c 0 (cH sk L τ)) none (fun h => f_M_pack F 1726 (mh 1726 h σ)) := BT_SI hC hm hN (sf_Hpack (CV_S4 hC).1.1 hK hF (SI_self hC)) (fun h hl => u_pack hl hF hR)
theorem B_boot {x : Int32} (hK : KT c) (hF : 65540 < F) (hC : CV sk L own τ fs gs ws n b a Y) (hR : RV σ fs gs ws n b a Y) (hm : RMk sk L (k + 210)) (hN : n + (fs.map Prod.fst).sum ≤ N) : BT Rn0 (fun _ _ => False) sk L τ k N (f_H_boot F c 0 x (cH sk L τ)) none (fun h => f_M_boot F 1726 x (mh 1726 h σ)) := by
  have u : ∀ h : px_H, 1726 ≤ h.length → UM 1726 h fs gs ws (if x = 0 then n else 0) (if x = 0 then b else fun _ => 0) a Y (f_M_boot F 1726 x (mh 1726 h σ)) := fun h hl => u_boot hl hF hR
  obtain ⟨v, τ', e, _, hI⟩ := sf_Hboot (F := F) (c := c) (a1 := x) (CV_S4 hC) hK hF (SI_self hC)
  refine ⟨fs, gs, ws, if x = 0 then n else 0, if x = 0 then b else fun _ => 0, a, Y, by split <;> omega, Or.inl ⟨v, sk, L, τ', own, e, EX_refl, ?_, RMk_le hm (by omega), ?_, fun h hl => ?_⟩⟩
  · rcases hI with ⟨_, hI⟩ | ⟨_, τ1, hI, rfl⟩
    · exact K26_Z hI.1
    · refine K26_trans (K26_Z hI.1) (fun y h1 h2 => ⟨fun k => (tI_ne (Or.inl (by omega))).trans (tI_ne (Or.inl (by omega))), fun _ => rfl, fun _ => rfl, rfl, rfl, rfl⟩)
  · rcases hI with ⟨e0, hI⟩ | ⟨e0, τ1, hI, rfl⟩
    · rw [if_pos e0, if_pos e0]; exact CV_SI hC hI
    · rw [if_neg e0, if_neg e0]; exact CV_clr (CV_SI hC hI)
  · obtain ⟨w, σ', e1, e2⟩ := u h hl
    exact ⟨w, σ', e1, e2, trivial⟩
theorem B_forget (hC : CV sk L own τ fs gs ws n b a Y) (hR : RV σ fs gs ws n b a Y) (hm : RMk sk L (k + 210)) (hN : n + (fs.map Prod.fst).sum ≤ N) : BT Rn0 (fun _ _ => False) sk L τ k N (f_H_forget F c 0 (cH sk L τ)) none (fun h => f_M_forget F 1726 (mh 1726 h σ)) := by
  obtain ⟨τ', e, h1, h2⟩ := v_forget (F := F) (c := c) hC
  refine ⟨fs, [], [], n, b, a, Y, hN, Or.inl ⟨(), sk, L, τ', own, e, EX_refl, h2, RMk_le hm (by omega), h1, fun h hl => ?_⟩⟩
  obtain ⟨w, σ', e1, e2⟩ := u_forget (F := F) hl hR
  exact ⟨w, σ', e1, e2, trivial⟩
theorem B_address (hF : 65540 < F) (hC : CV sk L own τ fs gs ws n b a Y) (hR : RV σ fs gs ws n b a Y) (hm : RMk sk L (k + 210)) (hN : n + (fs.map Prod.fst).sum ≤ N) : BT Rn0 (fun ci _ => ci = 14) sk L τ k N (f_H_address F c 0 (cH sk L τ)) (g_H_address F c 0 (cH sk L τ)) (fun h => f_M_address F 1726 (mh 1726 h σ)) := by
  have u : ∀ h : px_H, 1726 ≤ h.length → UM 1726 h fs gs ws (if a = 0 then 0 else n) (if a = 0 then fun _ => 0 else b) a Y (f_M_address F 1726 (mh 1726 h σ)) := fun h hl => u_address hl hF hR
  have ea : fI τ 147 18 = a := hC.2.2.2.2.2.2.2.2.2.2
  by_cases c0 : a = 0
  · obtain ⟨v, τ', e, h1, h2⟩ := v_address (F := F) (c := c) hF hC c0
    refine ⟨fs, gs, ws, 0, fun _ => 0, a, Y, by omega, Or.inl ⟨v, sk, L, τ', own, e, EX_refl, h2, RMk_le hm (by omega), h1, fun h hl => ?_⟩⟩
    obtain ⟨w, σ', e1, e2⟩ := u h hl
    rw [if_pos c0, if_pos c0] at e2
    exact ⟨w, σ', e1, e2, trivial⟩
  · refine BT_T hC hm hN (ci := 14) ?_ (fun _ => rfl) (fun h hl => ?_)
    · unfold g_H_address
      rw [C0r11 (G0 hC.1) (GR_r (v := 147) hC.2.1 (by decide)), bs, C3g18 (G147 hC.1), bs, if_neg (by rw [ea]; exact c0)]
    · have w := u h hl
      rw [if_neg c0, if_neg c0] at w
      exact w
end BTH
