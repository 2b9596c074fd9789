/-! the reference's calls that change what it knows (steps spelled out by sf/pp.py) -/
section MRW
variable {F m : Nat} {h : px_H} {σ0 σ σ' : px_S} {fs : px_FS} {gs : List (List Nat × Int64)} {ws : List (List Nat)} {n : Nat} {b : Nat → Nat} {a : Int32} {Y : px_Y}
theorem u_feed {v w : Nat} (hm : m ≤ h.length) (hF : 65540 < F) (hv : RV σ fs gs ws n b a Y) (hvv : v < 2 ^ 64) (h1 : 1 ≤ w) (hw : w ≤ 8) (hn : n + w ≤ 8192) : ∃ σ', f_M_feed F m (nI w) (lN v) (mh m h σ) = some (nI (n + w), mh m h σ') ∧ gI σ' 0 = nI 0 ∧ RV σ' fs gs ws (n + w) (fdd b n v w) a Y := by
  obtain ⟨v1, v2, v3, v4, v5, v6, v7, v8⟩ := hv
  obtain ⟨σ', e, g1, g2, f1, f2, f3, f4⟩ := q_feed (F := F) hm (by omega) hvv h1 hw hn v1
  have f : FR [0, 2] [] [1] [] σ σ' := ⟨fun k hk => by simp only [List.mem_cons, List.not_mem_nil, or_false, not_or] at hk; exact f1 k hk.1 hk.2, fun k _ => f2 k, fun k hk => by simp only [List.mem_cons, List.not_mem_nil, or_false] at hk; exact f3 k hk, fun k _ => f4 k⟩
  exact ⟨σ', e, g2, g1, RF_FR v2 f (by decide) (by decide), RG_FR v3 f (by decide) (by decide) (by decide), RW_FR v4 f (by decide) (by decide), OUo_FR v5 f (by decide) (by decide), MV_FR v6 f (by decide) (by decide), MNa_FR v7 f (by decide) (by decide), RVc_FR v8 f (by decide) (by decide) (by decide)⟩
theorem u_feed_t {y : Int32} {z : Int64} (hv : RV σ fs gs ws n b a Y) (c : Int32) : RV (sI σ 0 c) fs gs ws n b a Y := RV_0 hv (FR_I _ _ _)
theorem u_add (hm : m ≤ h.length) (hF : 65540 < F) (hv : RV σ fs gs ws n b a Y) (hy : ∀ q, 8 * fs.length ≤ q → q < 64 → Y.1.1 q = false) : ∃ σ', f_M_add F m (mh m h σ) = some (nI (if fs.length = 8 then 0 else eFil b n), mh m h σ') ∧ gI σ' 0 = nI (if fs.length = 8 then 1 else 0) ∧ RV σ' (if fs.length = 8 then fs else if eFil b n = 0 then fs ++ [(n, b)] else fs) gs ws (if fs.length = 8 then n else 0) (if fs.length = 8 then b else fun _ => 0) a Y := by
  obtain ⟨v1, v2, v3, v4, v5, v6, v7, v8⟩ := hv
  obtain ⟨σ', e, ⟨f1, f2, f3, f4⟩, g1, g2⟩ := q_add (F := F) (by omega) hm v1 v2
  have f : FR [0, 2, 5] [] [6, 7, 8, 9, 10, 11, 12, 19, 96] [] σ σ' := ⟨fun k hk => by simp only [List.mem_cons, List.not_mem_nil, or_false, not_or] at hk; exact f1 k hk.1 hk.2.1 hk.2.2, fun k _ => f2 k, fun k hk => by simp only [List.mem_cons, List.not_mem_nil, or_false, not_or] at hk; obtain ⟨a1, a2, a3, a4, a5, a6, a7, a8, a9⟩ := hk; exact f4 k a1 a2 a3 a4 a5 a6 a7 a8 a9, fun k _ => f3 k⟩
  have h8 := v2.2.1
  obtain ⟨c1, c2, c3, c4, c5, c6⟩ := id v8
  obtain ⟨d1, d2, d3⟩ := RVl_F0 ⟨c1.1, c1.2.1, c1.2.2.1⟩ f (by decide) (by decide)
  have rvc : ∀ fs' : px_FS, RX σ' fs' a Y → RVc σ' fs' a Y := fun fs' hx => by
    obtain ⟨ch, c5⟩ := c5
    exact ⟨⟨d1, d2, d3, hx⟩, (f.1 13 (by decide)).trans c2, fun k => by rw [f.2.2.1 42 (by decide)]; exact c3 k, fun k => by rw [f.2.2.1 91 (by decide)]; exact c4 k, ⟨ch, (f.1 98 (by decide)).trans c5⟩, RC_FR c6 f (by decide) (by decide)⟩
  have same : (∀ i, gA σ' 19 i = gA σ 19 i) → RX σ' fs a Y := fun h19 => RX_fr c1.2.2.2 (fun k hk => f.1 k (by revert k; decide)) (fun k hk => by
    by_cases e : k = 19
    · rw [e]; funext i; exact h19 i
    · exact f.2.2.1 k (by revert k; decide)) (fun k hk => f.2.2.2 k (by revert k; decide))
  have rest : RG σ' gs ∧ RW σ' ws ∧ OUo σ' ∧ MV σ' ∧ MNa σ' := ⟨RG_FR v3 f (by decide) (by decide) (by decide), RW_FR v4 f (by decide) (by decide), OUo_FR v5 f (by decide) (by decide), MV_FR v6 f (by decide) (by decide), MNa_FR v7 f (by decide) (by decide)⟩
  obtain ⟨t1, t2, t3, t4, t5⟩ := rest
  refine ⟨σ', e, g1, ?_⟩
  by_cases c : fs.length = 8
  · rw [if_pos c] at g2
    rw [if_pos c, if_pos c, if_pos c]
    exact ⟨g2.1, g2.2.1, t1, t2, t3, t4, t5, rvc _ (same g2.2.2)⟩
  · rw [if_neg c] at g2
    rw [if_neg c, if_neg c, if_neg c]
    obtain ⟨g2, g3⟩ := g2
    by_cases c2 : eFil b n = 0
    · rw [if_pos c2] at g3
      rw [if_pos c2]
      exact ⟨g2, g3.1, t1, t2, t3, t4, t5, rvc _ (RX_add c1.2.2.2 (by omega) hy f (by decide) (by decide) (by decide) g3.2.1 g3.2.2)⟩
    · rw [if_neg c2] at g3
      rw [if_neg c2]
      exact ⟨g2, g3.1, t1, t2, t3, t4, t5, rvc _ (same g3.2)⟩
theorem RVc_dr {x : Nat × (Nat → Nat)} (h : RVc σ (fs ++ [x]) a Y) : RVc σ fs a (dropY fs.length Y) := ⟨⟨h.1.1, h.1.2.1, h.1.2.2.1, RX_drop h.1.2.2.2⟩, h.2⟩
theorem u_drop {x : Nat × (Nat → Nat)} (hm : m ≤ h.length) (hv : RV σ (fs ++ [x]) gs ws n b a Y) : ∃ σ', f_M_drop F m (mh m h σ) = some (nI fs.length, mh m h σ') ∧ gI σ' 0 = nI 0 ∧ RV σ' fs gs ws n b a (dropY fs.length Y) := by
  obtain ⟨v1, v2, v3, v4, v5, v6, v7, v8⟩ := hv
  obtain ⟨σ', e, g1, g2, f1, f2, f3, f4⟩ := q_drop (F := F) hm v2
  have f : FR [0, 5] [] [] [] σ σ' := ⟨fun k hk => by simp only [List.mem_cons, List.not_mem_nil, or_false, not_or] at hk; exact f1 k hk.1 hk.2, fun k _ => f2 k, fun k _ => f3 k, fun k _ => f4 k⟩
  exact ⟨σ', e, g2, RT_FR v1 f (by decide) (by decide), g1, RG_FR v3 f (by decide) (by decide) (by decide), RW_FR v4 f (by decide) (by decide), OUo_FR v5 f (by decide) (by decide), MV_FR v6 f (by decide) (by decide), MNa_FR v7 f (by decide) (by decide), RVc_dr (RVc_FR v8 f (by decide) (by decide) (by decide))⟩
theorem u_forget (hm : m ≤ h.length) (hv : RV σ fs gs ws n b a Y) : UM m h fs [] [] n b a Y (f_M_forget F m (mh m h σ)) := by
  obtain ⟨v1, v2, v3, v4, v5, v6, v7, v8⟩ := hv
  obtain ⟨σ', e, g0, g1, g2, f1, f2, f3, f4⟩ := q_forget (F := F) (σ := σ) hm
  have f : FR [0, 31, 32] [] [] [] σ σ' := ⟨fun k hk => by simp only [List.mem_cons, List.not_mem_nil, or_false, not_or] at hk; exact f1 k hk.1 hk.2.1 hk.2.2, fun k _ => f2 k, fun k _ => f3 k, fun k _ => f4 k⟩
  exact ⟨(), σ', e, RT_FR v1 f (by decide) (by decide), RF_FR v2 f (by decide) (by decide), g1, g2, OUo_FR v5 f (by decide) (by decide), MV_FR v6 f (by decide) (by decide), MNa_FR v7 f (by decide) (by decide), RVc_FR v8 f (by decide) (by decide) (by decide)⟩
theorem frG_FR (f : frG σ σ') : FR [0, 2, 31, 32] [] [33, 34, 35, 36] [37] σ σ' := ⟨fun k hk => by simp only [List.mem_cons, List.not_mem_nil, or_false, not_or] at hk; exact f.1 k hk.1 hk.2.1 hk.2.2.1 hk.2.2.2, fun k _ => f.2.1 k, fun k hk => by simp only [List.mem_cons, List.not_mem_nil, or_false, not_or] at hk; exact f.2.2.2 k hk.1 hk.2.1 hk.2.2.1 hk.2.2.2, fun k hk => by simp only [List.mem_cons, List.not_mem_nil, or_false] at hk; exact f.2.2.1 k hk⟩
theorem u_give {v : Int64} (hm : m ≤ h.length) (hF : 65540 < F) (hv : RV σ fs gs ws n b a Y) : ∃ σ', f_M_give F m v (mh m h σ) = some (nI (if gcd' b n (gs.map Prod.fst) = 0 then gs.length + 1 else 0), mh m h σ') ∧ gI σ' 0 = nI (gcd' b n (gs.map Prod.fst)) ∧ RV σ' fs (if gcd' b n (gs.map Prod.fst) = 0 then gs ++ [(tk b 0 n, v)] else gs) ws 0 (fun _ => 0) a Y := by
  obtain ⟨v1, v2, v3, v4, v5, v6, v7, v8⟩ := hv
  obtain ⟨σ', e, g0, f, g1, g2, g3⟩ := q_give (F := F) (v := v) hm (by omega) v1 v3 v4
  have f := frG_FR f
  exact ⟨σ', e, g0, g1, RF_FR v2 f (by decide) (by decide), g3, g2, OUo_FR v5 f (by decide) (by decide), MV_FR v6 f (by decide) (by decide), MNa_FR v7 f (by decide) (by decide), RVc_FR v8 f (by decide) (by decide) (by decide)⟩
theorem u_wish (hm : m ≤ h.length) (hF : 65540 < F) (hv : RV σ fs gs ws n b a Y) : ∃ σ', f_M_wish F m (mh m h σ) = some (nI (if gcd' b n ws = 0 then ws.length + 1 else 0), mh m h σ') ∧ gI σ' 0 = nI (gcd' b n ws) ∧ RV σ' fs gs (if gcd' b n ws = 0 then ws ++ [tk b 0 n] else ws) 0 (fun _ => 0) a Y := by
  obtain ⟨v1, v2, v3, v4, v5, v6, v7, v8⟩ := hv
  obtain ⟨σ', e, g0, f, g1, g2, g3⟩ := q_wish (F := F) hm (by omega) v1 v3 v4
  have f := frG_FR f
  exact ⟨σ', e, g0, g1, RF_FR v2 f (by decide) (by decide), g2, g3, OUo_FR v5 f (by decide) (by decide), MV_FR v6 f (by decide) (by decide), MNa_FR v7 f (by decide) (by decide), RVc_FR v8 f (by decide) (by decide) (by decide)⟩
theorem u_address (hm : m ≤ h.length) (hF : 65540 < F) (hv : RV σ fs gs ws n b a Y) : UM m h fs gs ws (if a = 0 then 0 else n) (if a = 0 then fun _ => 0 else b) a Y (f_M_address F m (mh m h σ)) := by
  obtain ⟨v1, v2, v3, v4, v5, v6, v7, v8⟩ := hv
  obtain ⟨nms, h1, _⟩ := v8.1.1
  obtain ⟨v, σ', e, _, g1, f, _⟩ := q_address (F := F) hm (by omega) v1 h1
  rw [v8.2.1] at g1
  exact ⟨v, σ', e, g1, RF_FR v2 f (by decide) (by decide), RG_FR v3 f (by decide) (by decide) (by decide), RW_FR v4 f (by decide) (by decide), OUo_FR v5 f (by decide) (by decide), MV_FR v6 f (by decide) (by decide), MNa_FR v7 f (by decide) (by decide), RVc_FR v8 f (by decide) (by decide) (by decide)⟩
theorem oG_lt (b : Nat → Nat) (i : Nat) : oG b i < 10 := by
  unfold oG
  repeat (first | omega | split)
/-- what a link leaves for the calls after it -/
theorem RVl_of {s : px_TK} {k : Nat} {ll : List Nat} {ad : Nat → Nat} {NA : px_NA} (es : s = taL fs (xs0 gs ws) (od0 gs)) (hL : LNP fs s σ) (h13 : gI σ 13 = nI k) (hk : k ≤ 4) (hd : k = 0 → LKD σ s.1.2.2.1) (hx : k = 0 → RLa σ (tQf s.2.2.1) (tB fs s.2.2.1) ll ∧ (∀ (P x : Nat), ll[P]? = some x → gB σ 57 P = lN (ad x)) ∧ (∀ j, j < (xsN s).length → gB σ 29 j = NA.1 j) ∧ LKZ σ (vFe NA.2.2.2.2) NA.2.1) : RVl σ fs (nI k) (lnY fs s ll ad NA) := by
  have hX := RX_link es hL hk hx
  obtain ⟨⟨l1, l2, l3, l4, l5, l6, l7, l8, l9⟩, k2, k3, k4, ⟨k5, k6⟩, on, R, rn, k7, k8, k9, k10⟩ := hL
  have hcp : CPs s := by rw [es]; exact CPs_taL
  have hlen : (xsN s).length = s.1.2.1.length := by
    have := congrArg List.length (xsN_fst (s := s))
    rw [List.length_map, List.length_map] at this
    exact this
  have hx : (xsN s).length ≤ 4096 := by have := l3.1.2.1; rw [List.length_map] at this; exact this
  have hnm : ∀ d, d < (xsN s).length → ∃ l, gA σ 22 d = nI l ∧ l ≤ 20 := fun d hd' => by
    have hk' : d < ((xsN s).map Prod.fst).length := by rw [List.length_map]; exact hd'
    obtain ⟨z1, z2, _⟩ := l3.1.2.2 d _ (List.getElem?_eq_getElem hk')
    exact ⟨_, z2, z1.1⟩
  refine ⟨⟨(xsN s).map Prod.fst, l3.1, fun q hq => ?_⟩, ⟨_, k10.2.1.1, k9.1⟩, fun h0 => ?_, hX⟩
  · rw [l8.1 q hq, l9 q hq]
    cases e : s.2.2.2 q with
    | none => exact Or.inr (Or.inl rfl)
    | some i => exact Or.inr (Or.inr ⟨i, by rw [List.length_map, hlen]; exact hcp q i e, rfl⟩)
  · have hk0 : k = 0 := (nI_eq (b := 0) (by omega) (by decide)).mp (h13.symm.trans h0)
    obtain ⟨⟨fe, fe1, fe2⟩, hok, th, th1, th2⟩ := hd hk0
    obtain ⟨o1, o2, o3⟩ := l4
    have hdx : ∀ i, i < s.1.2.2.1.length → s.1.2.2.1[i]? = some (s.1.2.2.1.getD i 0) := fun i hi => by rw [List.getD_eq_getElem?_getD, List.getElem?_eq_getElem hi]; rfl
    have hdl : ∀ i, i < s.1.2.2.1.length → s.1.2.2.1.getD i 0 < (xsN s).length := fun i hi => k5 _ (List.mem_of_getElem? (hdx i hi))
    obtain ⟨lf, hlf⟩ : ∃ lf : Nat → Nat, ∀ i, i < s.1.2.2.1.length → gA σ 22 (s.1.2.2.1.getD i 0) = nI (lf i) ∧ lf i ≤ 20 := by
      have key : ∀ i, ∃ l, i < s.1.2.2.1.length → gA σ 22 (s.1.2.2.1.getD i 0) = nI l ∧ l ≤ 20 := fun i => by
        by_cases hi : i < s.1.2.2.1.length
        · obtain ⟨l, w⟩ := hnm _ (hdl i hi)
          exact ⟨l, fun _ => w⟩
        · exact ⟨0, fun w => absurd w hi⟩
      exact ⟨fun i => (key i).choose, fun i => (key i).choose_spec⟩
    refine ⟨?_, fe, s.1.2.2.1.length, th, lf, fun i => s.1.2.2.1.getD i 0, ⟨fe1, fe2⟩, ⟨th1, th2⟩, o2, o1, fun i hi => ⟨o3 i _ (hdx i hi), (show s.1.2.2.1.getD i 0 < 4096 from Nat.lt_of_lt_of_le (hdl i hi) hx), (hlf i hi).1, (hlf i hi).2, hok i _ (hdx i hi)⟩⟩
    obtain ⟨ll, ell⟩ : ∃ ll, ll = layL s.2.2.1.length (tB fs s.2.2.1) (sta (tB fs s.2.2.1) s.2.1.1 on R) := ⟨_, rfl⟩
    rw [← ell] at k9 k10
    obtain ⟨tb, etb⟩ : ∃ tb, tb = tB fs s.2.2.1 := ⟨_, rfl⟩
    rw [← etb] at k9 k10
    have hxx : ∀ p, p < ll.length → ll[p]? = some (ll.getD p 0) := fun p hp => by rw [List.getD_eq_getElem?_getD, List.getElem?_eq_getElem hp]; rfl
    have hq : ∀ t, t < s.2.2.1.length → tQf s.2.2.1 t < 64 := fun t ht => by
      have w := RQ_of l2 k2.1 l7 t ht
      exact w.1
    refine ⟨ll.length, s.1.2.2.1.length, fun p => oZ (tb (ll.getD p 0 / 24)) (ll.getD p 0 % 24), fun p => ll.getD p 0 % 24, fun p => oG (tb (ll.getD p 0 / 24)) (ll.getD p 0 % 24), fun p => tQf s.2.2.1 (ll.getD p 0 / 24) / 8, fun p => tQf s.2.2.1 (ll.getD p 0 / 24) % 8, lf, fun i => s.1.2.2.1.getD i 0, ⟨k10.2.1.1, k9.1, fun p hp => ?_⟩, o2, o1, fun i hi => ⟨o3 i _ (hdx i hi), (show s.1.2.2.1.getD i 0 < 4096 from Nat.lt_of_lt_of_le (hdl i hi) hx), (hlf i hi).1, (hlf i hi).2⟩⟩
    obtain ⟨r1, r2, r3, r4, r5, r6⟩ := k9.2 p _ (hxx p hp)
    have hm := List.mem_of_getElem? (hxx p hp)
    have hz := (k10.2.2.2 _ hm).1
    have ht := (k10.2.1.2 _ hm).1
    have hq' := hq _ ht
    refine ⟨r6, ?_, r4, (show ll.getD p 0 % 24 ≤ 99999 by omega), r5, oG_lt _ _, r2, ?_, r3, ?_⟩
    · show oZ (tb (ll.getD p 0 / 24)) (ll.getD p 0 % 24) ≤ 99999
      have hz : oZ (tb (ll.getD p 0 / 24)) (ll.getD p 0 % 24) ≤ 16384 := hz
      exact Nat.le_trans hz (by decide)
    · show tQf s.2.2.1 (ll.getD p 0 / 24) / 8 < 10
      generalize tQf s.2.2.1 (ll.getD p 0 / 24) = x at *
      omega
    · show tQf s.2.2.1 (ll.getD p 0 / 24) % 8 < 10
      omega
theorem lnR_4 {rc : Bool} {B : Nat → Nat} {s : px_TK} {k : Nat} (hl : lnR fs gs ws rc B s k) (hs : s.1.1 ≤ 2) : k ≤ 4 := by
  have ha : anN fs ws s (xsN s) ≤ 2 := by unfold anN; repeat (first | omega | split)
  by_cases c : anN fs ws s (xsN s) = 0
  · obtain ⟨R, rn, _, fe0, bg0, G0, fe1, mem1, bg1, G1, fe2, mem2, bg2, G4, G5, G2, sp, G3, CM, fe3, _, e⟩ := hl.2.2 c
    rw [e]
    split
    · omega
    · split <;> omega
  · have := hl.2.1 c
    omega
theorem LKY_of {s : px_TK} {rc : Bool} {B : Nat → Nat} {k : Nat} {σ' : px_S} {P : Prop} (h : k = 0 → P ∧ LKY fs s rc B σ') : ∃ ll ad NA, (k = 0 → RLa σ' (tQf s.2.2.1) (tB fs s.2.2.1) ll ∧ (∀ (P x : Nat), ll[P]? = some x → gB σ' 57 P = lN (ad x)) ∧ (∀ j, j < (xsN s).length → gB σ' 29 j = NA.1 j) ∧ LKZ σ' (vFe NA.2.2.2.2) NA.2.1) ∧ (k = 0 → lnX fs s rc B ll ad NA) := by
  by_cases c : k = 0
  · obtain ⟨_, ll, ad, NA, x1, x2⟩ := h c
    exact ⟨ll, ad, NA, fun _ => x2, fun _ => x1⟩
  · exact ⟨[], fun _ => 0, na0, fun q => absurd q c, fun q => absurd q c⟩
theorem RV_Y {s : px_TK} {j : Nat} {ll ll' : List Nat} {ad ad' : Nat → Nat} {NA NA' : px_NA} (h : RV σ fs gs ws n b (nI j) (lnY fs s ll ad NA)) (hj : j ≤ 4) (hx : j = 0 → ll = ll' ∧ ad = ad' ∧ NA = NA') : RV σ fs gs ws n b (nI j) (lnY fs s ll' ad' NA') := by
  by_cases c : j = 0
  · obtain ⟨rfl, rfl, rfl⟩ := hx c
    exact h
  · obtain ⟨v1, v2, v3, v4, v5, v6, v7, ⟨c1, c2, c3, c4⟩, c5⟩ := h
    exact ⟨v1, v2, v3, v4, v5, v6, v7, ⟨c1, c2, c3, ⟨c4.1.1, fun ha => absurd ((nI_eq (b := 0) (by omega) (by decide)).mp ha) c⟩, fun ha => absurd ((nI_eq (b := 0) (by omega) (by decide)).mp ha) c⟩, c5⟩
theorem u_link {rc : Bool} {B : Nat → Nat} (hm : m ≤ h.length) (hF : 65540 < F) (hv : RV σ fs gs ws n b a Y) (hB : RB σ B) (hsum : (fs.map Prod.fst).sum ≤ 4096) : ∃ (σ' : px_S) (k : Nat) (s : px_TK) (ll : List Nat) (ad : Nat → Nat) (NA : px_NA), f_M_link F m (bI rc) (mh m h σ) = some (nI k, mh m h σ') ∧ k ≤ 4 ∧ lnR fs gs ws rc B s k ∧ RV σ' fs gs ws n b (nI k) (lnY fs s ll ad NA) ∧ (k = 0 → lnX fs s rc B ll ad NA) := by
  obtain ⟨v1, v2, v3, v4, v5, v6, v7, v8⟩ := hv
  obtain ⟨σ', k, s, e, q1, q2, q3, q4, q5, q6, q7, f, q9⟩ := q_link (rc := rc) (F := F) hm hF v2 v3 v4 ⟨v5.2, v5.1, v8.2.2.1, v8.2.2.2.1, v8.2.2.2.2.1, v8.2.2.2.2.2⟩ hB hsum
  have hk := lnR_4 q1 q3.2.1.1.1
  obtain ⟨ll, ad, NA, y1, y2⟩ := LKY_of q9
  exact ⟨σ', k, s, ll, ad, NA, e, hk, q1, ⟨ RT_FR v1 f (by decide) (by decide), q5, q6, q7, ⟨q4.2.1, q4.1⟩, MV_FR v6 f (by decide) (by decide), MNa_FR v7 f (by decide) (by decide), RVl_of q1.1 q3 q2 hk (fun q => (q9 q).1) y1, q2, q4.2.2.1, q4.2.2.2.1, q4.2.2.2.2.1, q4.2.2.2.2.2⟩, y2⟩
theorem u_merge {B : Nat → Nat} (hm : m ≤ h.length) (hF : 65540 < F) (hv : RV σ fs gs ws n b a Y) (hB : RB σ B) (hsum : (fs.map Prod.fst).sum ≤ 4096) : ∃ (v : Int32) (σ' : px_S) (k : Nat) (s : px_TK) (ll : List Nat) (ad : Nat → Nat) (NA : px_NA), f_M_merge F m (mh m h σ) = some (v, mh m h σ') ∧ k ≤ 4 ∧ lnR fs gs ws false B s k ∧ RV σ' fs gs ws n b (nI k) (lnY fs s ll ad NA) ∧ (k = 0 → lnX fs s false B ll ad NA) := by
  obtain ⟨v1, v2, v3, v4, v5, v6, v7, v8⟩ := hv
  obtain ⟨v, σ1, σ2, k, s, e, q1, q2, q3, q4, q5, q6, q7, f, q9, fE, hO⟩ := q_merge (F := F) hm hF v2 v3 v4 ⟨v5.2, v5.1, v8.2.2.1, v8.2.2.2.1, v8.2.2.2.2.1, v8.2.2.2.2.2⟩ hB hsum
  have hk := lnR_4 q1 q3.2.1.1.1
  obtain ⟨ll, ad, NA, y1, y2⟩ := LKY_of q9
  have h1 : RV σ1 fs gs ws n b (nI k) (lnY fs s ll ad NA) := ⟨RT_FR v1 f (by decide) (by decide), q5, q6, q7, ⟨q4.2.1, q4.1⟩, MV_FR v6 f (by decide) (by decide), MNa_FR v7 f (by decide) (by decide), RVl_of q1.1 q3 q2 hk (fun q => (q9 q).1) y1, q2, q4.2.2.1, q4.2.2.2.1, q4.2.2.2.2.1, q4.2.2.2.2.2⟩
  exact ⟨v, σ2, k, s, ll, ad, NA, e, hk, q1, RV_out h1 (FR_mono fE (by decide) (by decide) (by decide) (by decide)) hO, y2⟩
end MRW
