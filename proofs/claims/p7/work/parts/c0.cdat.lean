/-! layData of the class -/
theorem pcs_b {xs : px_NL} {on : Bool} {rn : Nat → Bool} {th : Bool} (hcm : cmOK xs) : ∀ (l : List Nat) (s : px_PG), (∀ x, x ∈ l → x < xs.length) → (∀ v, s.2.2 = some v → v ≤ s.1) → ∀ v, (l.foldl (pc1 xs on rn th) s).2.2 = some v → v ≤ (l.foldl (pc1 xs on rn th) s).1 := by
  intro l
  induction l with
  | nil => intro s _ h v hv; exact h v hv
  | cons x l ih =>
    intro s hz h
    rw [List.foldl_cons]
    refine ih _ (fun y hy => hz y (List.mem_cons_of_mem _ hy)) (fun v hv => ?_)
    have hm := pc1_m (on := on) (rn := rn) (th := th) (s := s) (hz x List.mem_cons_self) hcm
    unfold pc1 at hv hm ⊢
    by_cases c : cB xs on rn x = true
    · rw [if_pos c] at hv hm ⊢
      have hv : s.2.2.getD (pcA xs th s.1 x) = v := Option.some.inj hv
      have hm : s.1 ≤ pcA xs th s.1 x + cmZ xs x ∧ _ := hm
      show v ≤ pcA xs th s.1 x + cmZ xs x
      cases e : s.2.2 with
      | none => rw [e] at hv; have hv : pcA xs th s.1 x = v := hv; omega
      | some w => rw [e] at hv; have hv : w = v := hv; have := h w e; omega
    · rw [if_neg c] at hv ⊢
      exact h v hv
section CDT
variable {F : Nat} {c : px_CT} {sk : Nat → Nat × Nat × Nat} {L : Nat} {own : Nat → Nat × Nat} {fs : px_FS} {s : px_TK} {xs : px_NL} {ST rn : Nat → Bool} {ll : List Nat} {th on : Bool} {rn0 : Nat → Bool} {D : Nat → Prop}
theorem TKe_Z {τ : px_TT} (h : TKe sk L own τ fs s xs ST rn) (hk : STk fs s ST) (hl : llS2 s ST ll) : ∀ x, x ∈ ll → zS (tB fs s.2.2.1) x ≤ 16384 ∧ alS (tB fs s.2.2.1) x ≤ 4096 := fun x hx => by
  obtain ⟨hxT, hxS⟩ := hl.2 x hx
  obtain ⟨_, _, _, _, _, tS⟩ := TKe_pt h hk hxT hxS
  obtain ⟨q, _, _, _, _, he, _⟩ := TKe_ob h (show x / 24 < s.2.2.1.length by omega)
  exact eObj_a he tS ((Bool.and_eq_true _ _).mp (hk x hxT hxS).1).2
theorem k_layGroup {τ : px_TT} {g : Nat} {G : px_PG} (hF : 65536 < F) (hc : KT c) (hk : STk fs s ST) (hl : llS2 s ST ll) (hnd : ll.Nodup) (hg : g < 6) (hD : ∀ x, D x → cnd (tB fs s.2.2.1) g x = false) (h : TKe sk L own τ fs s xs ST rn) (ho : COr τ ll) (ht : eI τ 1703 (sgO g) = bI th) (hb : G.1 < 2 ^ 39) (hA : ∀ x, x ∈ ll → D x → fJ τ (152 + x) 11 = lN (G.2.1 x)) : ∃ τ', f_Layout_layGroup F c 1700 (nI g) (lN G.1) (cH sk L τ) = some (lN (ll.foldl (pg1 (tB fs s.2.2.1) g th) G).1, cH sk L τ') ∧ (∀ x, x ∈ ll → (D x ∨ cnd (tB fs s.2.2.1) g x = true) → fJ τ' (152 + x) 11 = lN ((ll.foldl (pg1 (tB fs s.2.2.1) g th) G).2.1 x)) ∧ frJE J11 E0 τ τ' := by
  have hl1 := hl.1
  have h6 := ar_6 (K := 0) hl1
  obtain ⟨τ', j1, j2, j3⟩ := k_lg_6 (F := F) (c := c) (th := th) hF hc hk hl hnd hg hD ll.length 0 F τ G (Nat.zero_add _) (by omega) h ho ht (by omega) (fun Q x hx hd => hd.elim (fun w => hA x (List.mem_of_getElem? hx) w) (fun w => by omega))
  rw [List.drop_zero] at j1 j2
  exact ⟨τ', j1, j2, fr11_Q j3⟩
def J63 (a k : Nat) : Prop := J11 a k ∨ J14 a k
def E63 (a i : Nat) : Prop := (a = 1706 ∨ a = 1707) ∧ i = 2
theorem J63_Ly (a k : Nat) (w : J63 a k) : a = 1697 ∨ a = 1700 ∨ (152 ≤ a ∧ a < 1688 ∧ k = 11) ∨ (1815 ≤ a ∧ k = 14) := by unfold J63 J11 J14 at w; omega
theorem E63_Ly (a i : Nat) (w : E63 a i) : 1704 ≤ a ∧ a ≤ 1707 := by unfold E63 at w; omega
theorem k_dt_63 {τ : px_TT} {e bg2 : Nat} {ad : Nat → Nat} {G3 CM : px_PG} (hF : 65536 < F) (hc : KT c) (hk : STk fs s ST) (hl : llS2 s ST ll) (hnd : ll.Nodup) (hok : okL xs) (hcm : cmOK xs) (hcq : AL cmQ xs) (hrn : ∀ i, rn i = (!on || rn0 i)) (hod : ∀ d, d ∈ s.1.2.2.1 → d < xs.length) (h : TKe sk L own τ fs s xs ST rn) (ho : COr τ ll) (ht : eI τ 1703 2 = bI th) (hb2 : eJ τ 1705 2 = lN bg2) (hbe : bg2 ≤ e) (he : e < 2 ^ 38) (hD : ∀ x, D x → cnd (tB fs s.2.2.1) 3 x = false) (hA : ∀ x, x ∈ ll → D x → fJ τ (152 + x) 11 = lN (ad x)) (e3 : G3 = ll.foldl (pg1 (tB fs s.2.2.1) 3 th) (e, ad, none)) (eC : CM = s.1.2.2.1.foldl (pc1 xs on rn0 th) (G3.1, (fun _ => 0), G3.2.2)) : ∃ τ', f_Layout_layData_63 F c 1700 (lN e) (cH sk L τ) = some ((), cH sk L τ') ∧ (∀ x, x ∈ ll → (D x ∨ cnd (tB fs s.2.2.1) 3 x = true) → fJ τ' (152 + x) 11 = lN (G3.2.1 x)) ∧ fJ τ' 1700 15 = lN (CM.2.2.getD CM.1) ∧ (eJ τ' 1706 2 = lN (e - bg2) ∧ eJ τ' 1707 2 = lN (CM.1 - bg2)) ∧ (∀ n, n ∈ s.1.2.2.1 → cB xs on rn0 n = true → fJ τ' (pN τ 149 n) 14 = lN (CM.2.1 n)) ∧ frJE J63 E63 τ τ' := by
  have hl1 := hl.1
  have h6 := ar_6 (K := 0) hl1
  have hS := h.1
  have hR := h.2.1
  have o := G1700 hS
  have hZ := TKe_Z h hk hl
  have hol := h.2.2.2.2.1.1.2.2.2.1
  have hT := BK_T (s := s) h.2.2.2.2.1.1
  have hoq : s.1.2.2.1.length * 20480 ≤ 4096 * 20480 := Nat.mul_le_mul_right _ (by omega)
  obtain ⟨τ1, hτ1⟩ : ∃ y, y = vJ τ 1706 (vp_updL (eJ τ 1706) 2 (lN (e - bg2))) := ⟨_, rfl⟩
  have f1 : frJE J63 E63 τ τ1 := by rw [hτ1]; exact frJE_E ⟨Or.inl rfl, rfl⟩
  have h1 := TKe_Ly h (frJE_Ly f1 J63_Ly E63_Ly)
  have ho1 : COr τ1 ll := COr_fx ho (f1.1 1700 11) (f1.2.2.2.2.2 1701)
  obtain ⟨τ2, a1, a2, a3⟩ := k_layGroup (F := F) (c := c) (g := 3) (th := th) (D := D) (G := (e, ad, none)) hF hc hk hl hnd (by decide) hD h1 ho1 (by rw [f1.2.2.2.1]; exact ht) (show e < _ by omega) (fun x hx hd => by rw [hτ1]; exact hA x hx hd)
  rw [← e3] at a1 a2
  have f2 : frJE J63 E63 τ τ2 := frJE_trans f1 (frJE_mono a3 (fun _ _ w => Or.inl w) (fun _ _ w => w.elim))
  have h2 := TKe_Ly h (frJE_Ly f2 J63_Ly E63_Ly)
  have ho2 : COr τ2 ll := COr_fx ho (f2.1 1700 11) (f2.2.2.2.2.2 1701)
  have kf := k_firstOf (F := F) (c := c) (p := cnd (tB fs s.2.2.1) 3) (g := 3) (fun x _ => by rw [cnd_q (by decide)]; exact decide_eq_true_iff) hF hk hl (by decide) h2 ho2
  have hbs := pg_fst (tb := tB fs s.2.2.1) (th := th) ll (e, ad, none) hnd rfl
  have hm3 := pgs_m (g := 3) (th := th) ll (e, ad, none) hZ
  have hb3 := pgs_b (g := 3) (th := th) ll (e, ad, none) hZ (fun v hv => nomatch hv)
  rw [← e3] at hbs hm3 hb3
  have hm3 : e ≤ G3.1 ∧ G3.1 ≤ e + ll.length * 20480 := hm3
  have hmC := pcs_m (on := on) (rn := rn0) (th := th) hcm s.1.2.2.1 (G3.1, (fun _ => 0), G3.2.2) hod
  have hbC := pcs_b (on := on) (rn := rn0) (th := th) hcm s.1.2.2.1 (G3.1, (fun _ => 0), G3.2.2) hod hb3
  rw [← eC] at hmC hbC
  have hmC : G3.1 ≤ CM.1 ∧ CM.1 ≤ G3.1 + s.1.2.2.1.length * 20480 := hmC
  obtain ⟨τ3, hτ3⟩ : ∃ y, y = tJ τ2 1700 15 (bsV G3.2.2) := ⟨_, rfl⟩
  have f3 : frJE J63 E63 τ τ3 := frJE_trans f2 (by rw [hτ3]; exact frJE_J (Or.inr (Or.inl ⟨rfl, rfl⟩)))
  have h3 := TKe_Ly h (frJE_Ly f3 J63_Ly E63_Ly)
  have eP : ∀ n, pN τ3 149 n = pN τ 149 n := fun n => by unfold pN; rw [f3.2.2.2.2.2]
  obtain ⟨τ4, b1, b2, b3, b4⟩ := k_ld_111 (F := F) (c := c) (th := th) (on := on) (rn0 := rn0) hF hok hcm hcq hrn s.1.2.2.1.length 0 F τ3 (G3.1, (fun _ => 0), G3.2.2) (Nat.zero_add _) (by omega) h3 (by rw [f3.2.2.2.1]; exact ht) (by rw [hτ3, tJ_at]) (show G3.1 + _ < _ by omega) (fun v hv => by have := hb3 v hv; omega) (fun n hn => by rw [List.take_zero] at hn; cases hn)
  rw [List.drop_zero, ← eC] at b1 b2 b3
  have f4 : frJE J63 E63 τ τ4 := frJE_trans f3 (frJE_mono (fr14_Q b4) (fun _ _ w => Or.inr w) (fun _ _ w => w.elim))
  have ebs : (if lN 0 ≤ bsV CM.2.2 then bsV CM.2.2 else lN CM.1) = lN (CM.2.2.getD CM.1) := by
    cases ec : CM.2.2 with
    | none => rw [if_neg (show ¬ lN 0 ≤ bsV none by decide)]; rfl
    | some v => rw [if_pos ((bsV_le (o := some v) (fun w q => by cases q; have := hbC v ec; omega)).mpr rfl)]; rfl
  obtain ⟨τ5, hτ5⟩ : ∃ y, y = tJ τ4 1700 15 (lN (CM.2.2.getD CM.1)) := ⟨_, rfl⟩
  obtain ⟨τ6, hτ6⟩ : ∃ y, y = vJ τ5 1707 (vp_updL (eJ τ5 1707) 2 (lN (CM.1 - bg2))) := ⟨_, rfl⟩
  have f5 : frJE J63 E63 τ τ5 := frJE_trans f4 (by rw [hτ5]; exact frJE_J (Or.inr (Or.inl ⟨rfl, rfl⟩)))
  have f6 : frJE J63 E63 τ τ6 := frJE_trans f5 (by rw [hτ6]; exact frJE_E ⟨Or.inr rfl, rfl⟩)
  have hR5 := GR_Ly hR (frJE_Ly f5 J63_Ly E63_Ly)
  have b5 : eJ τ5 1705 2 = lN bg2 := by rw [f5.2.2.2.2.1 _ _ (fun w => by unfold E63 at w; omega)]; exact hb2
  have tail : f_Layout_layData_212 F c 1700 (lN CM.1) (cH sk L τ4) = some ((), cH sk L τ6) := by
    have t230 : f_Layout_layData_230 F c 1700 (lN CM.1) 1700 (lN (CM.2.2.getD CM.1)) (cH sk L τ4) = some ((), cH sk L τ6) := by
      unfold f_Layout_layData_230
      rw [C2p15 o, bs, ← hτ5, C2r8 o (GR_r (v := 1707) hR5 (by decide)), bs, C2r6 o (GR_r (v := 1705) hR5 (by decide)), bs, c_aJ (G1705 hS) (by decide) (by decide), bs, b5, lN_sub (by omega), c_sJ (G1707 hS) (by decide) (by decide), bs, ← hτ6]
    unfold f_Layout_layData_212
    rw [C2g15 o, bs, b2]
    by_cases w : lN 0 ≤ bsV CM.2.2
    · rw [if_pos w] at ebs ⊢
      rw [bs, ebs]
      exact t230
    · rw [if_neg w] at ebs ⊢
      rw [ebs]
      rw [← ebs] at t230
      rw [← ebs]
      exact t230
  refine ⟨τ6, ?_, fun x hx hd => ?_, ?_, ⟨?_, ?_⟩, fun n hn hc => ?_, f6⟩
  · unfold f_Layout_layData_63
    rw [C2r7 o (GR_r (v := 1706) hR (by decide)), bs, C2r6 o (GR_r (v := 1705) hR (by decide)), bs, c_aJ (G1705 hS) (by decide) (by decide), bs, hb2, lN_sub (by omega), c_sJ (G1706 hS) (by decide) (by decide), bs, ← hτ1, c_o o, bs, a1, xb_mk, c_o o, bs, kf, xb_mk]
    have t105 : f_Layout_layData_105 F c 1700 (lN G3.1) 1700 (bsV G3.2.2) (cH sk L τ2) = some ((), cH sk L τ6) := by
      unfold f_Layout_layData_105
      rw [C2p15 o, bs, ← hτ3]
      exact b1.trans tail
    cases ef : ll.find? (cnd (tB fs s.2.2.1) 3) with
    | none =>
      rw [ef] at hbs
      rw [hbs] at t105
      exact t105
    | some x =>
      rw [ef] at hbs
      have hxm := List.mem_of_find?_eq_some ef
      have hxc := List.find?_some ef
      obtain ⟨p1, _⟩ := TKe_part h (hl.2 x hxm).1
      show (xgJ (cH sk L τ2) 8 11 (152 + x)).bind _ = _
      rw [C8g11 p1, bs, a2 x hxm (Or.inr hxc)]
      rw [hbs] at t105
      exact t105
  · have hx1 := (hl.2 x hx).1
    rw [hτ6]
    show fJ τ5 (152 + x) 11 = _
    rw [hτ5, tJ_ne (Or.inl (by omega)), b4.2.1 _ _ (by omega) (Or.inl (by omega)), hτ3, tJ_ne (Or.inl (by omega))]
    exact a2 x hx hd
  · rw [hτ6]
    show fJ τ5 1700 15 = _
    rw [hτ5, tJ_at]
  · rw [hτ6, eJ_un (Or.inl (by decide)), hτ5]
    show eJ τ4 1706 2 = _
    rw [b4.2.2.2.2.2.1, hτ3]
    show eJ τ2 1706 2 = _
    rw [a3.2.2.2.2.1 _ _ (fun w => w), hτ1, eJ_up]
  · rw [hτ6, eJ_up]
  · have hge := (h.2.2.2.1.1 149 n _ (Or.inr (Or.inr rfl)) (CLm_at h.2.2.2.1.2.1 (List.getElem?_eq_getElem (hod n hn))).2.1).1
    rw [hτ6]
    show fJ τ5 (pN τ 149 n) 14 = _
    rw [hτ5, tJ_ne (Or.inl (by omega)), ← eP]
    exact b3 n hn hc
end CDT
