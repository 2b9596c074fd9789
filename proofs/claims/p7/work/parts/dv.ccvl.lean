/-! the class's calls that tell names, link or merge keep what holds between calls -/
section CVL
variable {F : Nat} {c : px_CT} {sk sk' : Nat → Nat × Nat × Nat} {L L' : Nat} {own : Nat → Nat × Nat} {τ τ' : px_TT} {fs : List (Nat × (Nat → Nat))} {gs : List (List Nat × Int64)} {ws : List (List Nat)} {n : Nat} {b : Nat → Nat} {w : Int32} {Y : px_Y}
theorem v_readTapeName (hF : 65540 < F) (h : CV sk L own τ fs gs ws n b w Y) : ∃ τ', f_H_readTapeName F c 0 (cH sk L τ) = some (bI (tnm b n), cH sk L τ') ∧ CV sk L own τ' fs gs ws 0 (fun _ => 0) w Y ∧ (tnm b n = true → isNm τ' 146 (tk b 0 n)) ∧ K26 τ τ' := by
  obtain ⟨hS, hR, hn, hf, hg, hw, ht, hr, hz, hnd⟩ := id h
  obtain ⟨τ', e, g1, g2, ⟨f1, f2, f3, f4, f5, f6⟩, g3⟩ := k_readTapeName (F := F) (c := c) hS hR (by omega) ht
  obtain ⟨x1, x2, x3, x4⟩ := CVx (τ' := τ') h f6 (fun a k ha => f1 a k (by omega) (by omega)) (fun a k ha => f2 a k (by omega)) f3 (fun a _ => f4 a)
  refine ⟨τ', e, ⟨hS, g1, x1, CF_mv hf EX_refl ⟨fun a k ha hk => f1 a k (by omega) (by omega), fun a k _ => f3 a k, fun a ha => f4 a⟩, x2, x3, g2, x4, CX_W hz EX_refl (frWx_g hn f6 (fun a k ha => f1 a k (by omega) (by omega)) (fun a k _ => f2 a k (by omega)) f3 (f4 1703)) (fun q _ => ⟨f1 _ 15 (by omega) (by omega), f1 _ 16 (by omega) (by omega)⟩), hnd.1, (f1 147 18 (by omega) (by omega)).trans hnd.2⟩, g3, fun a h1 h2 => ⟨fun k => f1 a k (by omega) (by omega), fun k => f2 a k (by omega), fun k => f3 a k, f4 a, f5 a, f6 a⟩⟩
/-- a name is told: the rest stays -/
theorem CVr_U {own' : Nat → Nat × Nat} {p A i : Nat} (h : CVr sk L τ) (e : EX sk L sk' L') (hn : NP sk L τ own) (hn' : NP sk' L' τ' own') (hA : A = 141 ∨ A = 144) (hp : 1815 ≤ p) (ep : eN τ' A i = some p) (f : frU p τ τ') : CVr sk' L' τ' := by
  obtain ⟨f1, f2, f3, f4, f5, f6⟩ := f
  refine CVr_fx h e (fun a k ha => f1 a k (by omega) (by omega) (by omega) (by omega) (by omega)) (fun k => f2 1696 k (by omega) (by omega)) (fun a k ha => f3 a k (by omega)) (fun a _ => f4 a) (fun a ha => f6 a (by omega) (by omega)) (fun d q hq => ?_)
  have hq1 := (hn 149 d q (Or.inr (Or.inr rfl)) hq).1
  have hq' : eN τ' 149 d = some q := by rw [f6 149 (by decide) (by decide)]; exact hq
  have hne : q ≠ p := NP_ne hn' (Or.inr (Or.inr rfl)) (by omega) hq' ep (by omega)
  exact ⟨f1 q 5 hne (by omega) (by omega) (by omega) (by omega), f3 q 6 hne⟩
theorem v_give {v : Int64} {k : Nat} (hF : 65540 < F) (h : CV sk L own τ fs gs ws n b w Y) (hr : RMk sk L (k + 1)) (hz0 : gcd' b n (gs.map Prod.fst) = 0) : ∃ sk' L' τ' own', f_H_give F c 0 v (cH sk L τ) = some (nI (gs.length + 1), cH sk' L' τ') ∧ EX sk L sk' L' ∧ RMk sk' L' k ∧ CV sk' L' own' τ' fs (gs ++ [(tk b 0 n, v)]) ws 0 (fun _ => 0) w Y ∧ K26 τ τ' := by
  obtain ⟨hS, hR, hn, hf, hg, hw, ht, hrr, hz, hnd⟩ := id h
  have hz1 := (gcd_0 hz0).2.2
  obtain ⟨sk', L', τ', own', p, e, a1, a2, a3, a4, a5, a6, a7, a8, a9, a10, a11, a12⟩ := k_give (F := F) (c := c) (v := v) hS hR (by omega) ht hf hn hg hw hr hz0
  refine ⟨sk', L', τ', own', e, a1, a2, ⟨a3, a4, a7, a6, a8, a9, a5, CVr_U hrr a1 hn a7 (Or.inl rfl) a10 a11 a12, CX_W hz a1 (frWx_U hn a7 (Or.inl rfl) a10 a11 a12) (fun q _ => ⟨a12.1 _ 15 (by omega) (by omega) (by omega) (by omega) (by omega), a12.1 _ 16 (by omega) (by omega) (by omega) (by omega) (by omega)⟩), ?_, (a12.1 147 18 (by omega) (by omega) (by omega) (by omega) (by omega)).trans hnd.2⟩, fun a h1 h2 => ⟨fun k => a12.1 a k (by omega) (by omega) (by omega) (by omega) (by omega), fun k => a12.2.1 a k (by omega) (by omega), fun k => a12.2.2.1 a k (by omega), a12.2.2.2.1 a, a12.2.2.2.2.1 a, a12.2.2.2.2.2 a (by omega) (by omega)⟩⟩
  refine ⟨?_, fun w hw => ?_, hnd.1.2.2⟩
  rotate_left
  · rw [List.map_append, List.map_cons, List.map_nil] at hw
    rcases List.mem_append.mp hw with e | e
    · exact hnd.1.2.1 w e
    · rw [List.mem_singleton.mp e]; exact nT_tnm.mp (gcd_0 hz0).1
  rw [List.map_append, List.map_cons, List.map_nil]
  refine List.nodup_append.mpr ⟨hnd.1.1, List.nodup_cons.mpr ⟨List.not_mem_nil, List.nodup_nil⟩, fun x hx y hy e => ?_⟩
  rw [List.mem_singleton] at hy
  subst hy
  subst e
  have hs := idx_iff.mpr hx
  rw [hz1] at hs
  cases hs
theorem v_wish {k : Nat} (hF : 65540 < F) (h : CV sk L own τ fs gs ws n b w Y) (hr : RMk sk L (k + 1)) (hz0 : gcd' b n ws = 0) : ∃ sk' L' τ' own', f_H_wish F c 0 (cH sk L τ) = some (nI (ws.length + 1), cH sk' L' τ') ∧ EX sk L sk' L' ∧ RMk sk' L' k ∧ CV sk' L' own' τ' fs gs (ws ++ [tk b 0 n]) 0 (fun _ => 0) w Y ∧ K26 τ τ' := by
  obtain ⟨hS, hR, hn, hf, hg, hw, ht, hrr, hz, hnd⟩ := id h
  obtain ⟨sk', L', τ', own', p, e, a1, a2, a3, a4, a5, a6, a7, a8, a9, a10, a11, a12⟩ := k_wish (F := F) (c := c) hS hR (by omega) ht hf hn hg hw hr hz0
  refine ⟨sk', L', τ', own', e, a1, a2, ⟨a3, a4, a7, a6, a8, a9, a5, CVr_U hrr a1 hn a7 (Or.inr rfl) a10 a11 a12, CX_W hz a1 (frWx_U hn a7 (Or.inr rfl) a10 a11 a12) (fun q _ => ⟨a12.1 _ 15 (by omega) (by omega) (by omega) (by omega) (by omega), a12.1 _ 16 (by omega) (by omega) (by omega) (by omega) (by omega)⟩), ⟨hnd.1.1, hnd.1.2.1, fun w hw => by
      rcases List.mem_append.mp hw with e | e
      · exact hnd.1.2.2 w e
      · rw [List.mem_singleton.mp e]; exact nT_tnm.mp (gcd_0 hz0).1⟩, (a12.1 147 18 (by omega) (by omega) (by omega) (by omega) (by omega)).trans hnd.2⟩, fun a h1 h2 => ⟨fun k => a12.1 a k (by omega) (by omega) (by omega) (by omega) (by omega), fun k => a12.2.1 a k (by omega) (by omega), fun k => a12.2.2.1 a k (by omega), a12.2.2.2.1 a, a12.2.2.2.2.1 a, a12.2.2.2.2.2 a (by omega) (by omega)⟩⟩
theorem lnR_by {rc : Bool} {B : Nat → Nat} {s : px_TK} {a : Nat} (hf : FSo fs) (hgl : gs.length ≤ 16) (hwl : ws.length ≤ 16) (hk : WK fs s) (hs : s = taL fs (xs0 gs ws) (od0 gs)) : AL (byP s.2.2.1.length (tB fs s.2.2.1) s.2.1.1) (xsN s) := by
  by_cases h0 : s.1.1 = 0
  · obtain ⟨x1, x2, x3, _⟩ := LN_f (fs := fs) (gs := gs) (ws := ws) (s := s) hf hgl hwl hs h0
    exact x3.2.2.1
  · unfold xsN
    rw [if_neg h0]
    exact hk.2.1
theorem v_runLink {k : Nat} {rc : Bool} {B : Nat → Nat} {s : px_TK} {a : Nat} (hF : 65540 < F) (hc : KT c) (h : CV sk L own τ fs gs ws n b w Y) (hm : RMk sk L (k + rmT fs [] + 32)) (hsum : (fs.map Prod.fst).sum ≤ 4096) (hB : BFs fs B) (hln : lnR fs gs ws rc B s a) : ∃ sk' L' τ' own' ST rn ll ad NA, f_H_runLink F c 0 (bI rc) (cH sk L τ) = some (nI a, cH sk' L' τ') ∧ EX sk L sk' L' ∧ RMk sk' L' k ∧ CV sk' L' own' τ' fs gs ws n b (nI a) (lnY fs s ll ad NA) ∧ TKe sk' L' own' τ' fs s (xsN s) ST rn ∧ AL (byP s.2.2.1.length (tB fs s.2.2.1) s.2.1.1) (xsN s) ∧ K26 τ τ' ∧ (a = 0 → lnX fs s rc B ll ad NA) ∧ (rc = false → ∀ x, ST x = (kpB (tB fs s.2.2.1 (x / 24)) (x % 24) && !s.2.1.1 x)) := by
  obtain ⟨hS, hR, hn, hf, hg, hw, ht, ⟨r1, r2, r3, r4, r5, r6⟩, hz, hnd⟩ := id h
  obtain ⟨sk', L', τ', own', ST, rn, e, a1, a2, a3, a4, a5, a6, a7, a8, a9, a10, ⟨g1, g2, g3⟩, a11, a12⟩ := k_runLink (F := F) (c := c) (k := k) hF hc hS hR hn hg hw hf hm hnd.1.1 r1 r2 r4.2 hsum hB hln
  have hgl : gs.length ≤ 16 := by have := hg.1.2.2.2.1; rw [List.length_map] at this; exact this
  have hwl : ws.length ≤ 16 := hw.2.2.2.1
  have hby := lnR_by (rc := rc) (B := B) (a := a) (CF_FSo hf) hgl hwl a3.2.2.2.2.1 hln.1
  obtain ⟨b1, b2, b3, ⟨k1, k2, k3, k4⟩, b5, b6, b7⟩ := id a3
  have hod : ∀ i, i < s.1.2.2.1.length → ∃ d, s.1.2.2.1[i]? = some d := fun i hi => ⟨_, List.getElem?_eq_getElem hi⟩
  have ho : s.1.2.2.1.length ≤ 4128 := by
    have := b5.1.2.2.2.1
    have hT := BK_T (s := s) b5.1
    omega
  have hat : ∀ i, i < (xsN s).length → eN τ' 149 i = some (pN τ' 149 i) := fun i hi => (k2.1.2.2.2.2.2.2 i _ (by rw [List.getElem?_map, List.getElem?_eq_getElem hi]; rfl)).2.1
  obtain ⟨ll, ad, NA, cx1, cx2⟩ := CX_link hln.1 (lnR_le hln a3.2.2.2.2.1.1.1) a3 a10 a11 (by rw [hln.1]; exact nT_taL (CF_FSo hf) hnd.1.2.1 hnd.1.2.2)
  refine ⟨sk', L', τ', own', ST, rn, ll, ad, NA, e, a1, a2, ⟨b1, b2, k1, b3, a4, a5, CTp_SI ht ((g1 1 (Or.inl rfl)).1 1) (g1 2 (Or.inr (Or.inl rfl))).2.2.2.1, ⟨a6, a7, ?_, ⟨⟨_, ho, k2.2.2.1, fun i hi => ?_⟩, a9⟩, ⟨(xsN s).length, ?_, ?_, fun i hi => ?_⟩, _, BK_T (s := s) b5.1, k3⟩, cx1, hnd.1, a8⟩, a3, hby, fun a h1 h2 => g1 a (Or.inr (Or.inr ⟨by omega, by omega⟩)), cx2, a12⟩
  · obtain ⟨⟨m6, h6, e6⟩, m9, h9, e9⟩ := r3
    have w := (g1 1718 (Or.inr (Or.inr ⟨by decide, by decide⟩))).1
    exact ⟨⟨m6, h6, (w 6).trans e6⟩, m9, h9, (w 9).trans e9⟩
  · obtain ⟨d, hd⟩ := hod i hi
    obtain ⟨d1, d2⟩ := k2.2.2.2 i d hd
    exact ⟨_, d2, TKe_Nmo a3 hby d1, d, hat d d1⟩
  · have := k2.1.2.2.2.1; rw [List.length_map] at this; exact this
  · have := k2.1.2.2.2.2.2.1; rw [List.length_map] at this; exact this
  · have hN := TKe_Nmo a3 hby hi
    exact ⟨_, hat i hi, hN.1, hN.2.1⟩
theorem v_link {k : Nat} {rc : Bool} {B : Nat → Nat} {s : px_TK} {a : Nat} (hF : 65540 < F) (hc : KT c) (h : CV sk L own τ fs gs ws n b w Y) (hm : RMk sk L (k + rmT fs [] + 32)) (hsum : (fs.map Prod.fst).sum ≤ 4096) (hB : BFs fs B) (hln : lnR fs gs ws rc B s a) : ∃ sk' L' τ' own' ll ad NA, f_H_link F c 0 (bI rc) (cH sk L τ) = some (nI a, cH sk' L' τ') ∧ EX sk L sk' L' ∧ RMk sk' L' k ∧ CV sk' L' own' τ' fs gs ws n b (nI a) (lnY fs s ll ad NA) ∧ K26 τ τ' ∧ (a = 0 → lnX fs s rc B ll ad NA) := by
  obtain ⟨sk', L', τ', own', ST, rn, ll, ad, NA, e, a1, a2, a3, _, _, a7⟩ := v_runLink (F := F) (c := c) hF hc h hm hsum hB hln
  unfold f_H_link
  rw [c_o (G0 h.1), bs, e, xb_mk]
  exact ⟨sk', L', τ', own', ll, ad, NA, rfl, a1, a2, a3, a7.1, a7.2.1⟩
theorem v_merge {k : Nat} {B : Nat → Nat} {s : px_TK} {a : Nat} (hF : 65540 < F) (hc : KT c) (h : CV sk L own τ fs gs ws n b w Y) (hm : RMk sk L (k + rmT fs [] + 32)) (hsum : (fs.map Prod.fst).sum ≤ 4096) (hB : BFs fs B) (hln : lnR fs gs ws false B s a) : ∃ v sk' L' τ' own' ll ad NA, f_H_merge F c 0 (cH sk L τ) = some (v, cH sk' L' τ') ∧ EX sk L sk' L' ∧ RMk sk' L' k ∧ CV sk' L' own' τ' fs gs ws n b (nI a) (lnY fs s ll ad NA) ∧ K26 τ τ' ∧ (a = 0 → lnX fs s false B ll ad NA) := by
  obtain ⟨sk', L', τ1, own', ST, rn, ll, ad, NA, e, a1, a2, a3, a5, a6, a7, a8, _⟩ := v_runLink (F := F) (c := c) hF hc h hm hsum hB hln
  have h4 := CV_S4 a3
  have hI := SI_self a3
  have h0 := h4.1.1.1
  have h3 : S3 sk' L' own' τ1 fs s (xsN s) ST rn ws := ⟨h4.1, a5, a6, a3.2.2.2.2.2.1⟩
  have key : Sf sk' L' (SI none sk' L' τ1) Any (f_H_merge F c 0 (cH sk L τ)) := by
    unfold f_H_merge
    rw [c_o (G0 h.1), bs, show nI 0 = bI false from rfl, e, xb_mk]
    refine sf_i (fun _ => sf_r any hI) (fun _ => ?_)
    refine sf_gG h0 hI (by decide) (by decide) (by decide) (by decide) (q := 1713) rfl (sx_draft h0 hI (fun r hr => ?_))
    refine sf_o (GS_o h0.1 (by decide) (by decide)) (fun _ => sf_x (sf_merged h3 hc hF hr hI) (fun v τ hv hi => ?_))
    refine sf_i (fun _ => sf_r any hi) (fun _ => ?_)
    exact sf_o (G0 h0.1) (fun _ => sf_x (sf_publish h0 hi) (fun v τ hv hi => sf_r any hi))
  obtain ⟨v, τ', em, _, hJ⟩ := key
  exact ⟨v, sk', L', τ', own', ll, ad, NA, em, a1, a2, CV_SI a3 hJ, K26_trans a7 (K26_Z hJ.1), a8⟩
end CVL
