/-! the law's cases with what holds between calls: written by a program (wip/tools/gencase.py) -/
theorem lw_zb_b (u : Int32) : ∃ rc, lw_zb u = bI rc := by
  by_cases h : u = 0
  · exact ⟨false, if_pos h⟩
  · exact ⟨true, if_neg h⟩
section CASES
variable {l : Launch} {g : px_G} {d F : Nat} {ph : px_H} {Q : px_Q} {L a r : Nat} {xs : Nat → Int32}
theorem cs_0 (hfl : l.flags = flags0) (hK : KT (px_ct g)) (hF : 65540 < F) (hct : px_ct g 0 = (.int, L, xs)) (hL : L ≤ 2048) (ha : a + 3 < L) (hI : INV (r + 1) ph) (K : ∀ ph2, INV r ph2 → PW l g (d + 41) m_L_law 23 [.retAddr 0, .ref 0, .ref 1726, .ref 1814, .int (nI (a + 4)), px_u, px_u, px_u] [] ph2 Q) : PW l g (d + 41) m_L_law 148 [.retAddr 0, .ref 0, .ref 1726, .ref 1814, .int (nI a), px_u, px_u, px_u] [] ph Q := by
  obtain ⟨sk, L0, own, τ, σ, fs, gs, ws, n, b, a0, Y, rfl, hk, hq, hC, hR, hm, hN⟩ := hI
  have hx := xo_some (c_o (τ := τ) (G0 hC.1))
  have hr : 8 * r ≤ 4096 := by omega
  refine law_0 (x := 0) (m := 1726) (o := 1814) (d := d + 40) hct hL ha ?_
  have hb := B_feed (F := F) (z := (lw_jj (xs (a + 2)) (xs (a + 3)))) (y := (xs (a + 1))) (c := px_ct g) (k := 210 * r) (N := 4096 - 8 * r) hF hC hR (RMk_le hm (by omega)) (by omega)
  rcases OUT hk hq hC.1.1 hr (fun _ _ h => by rcases h with h | h <;> (rw [h.1]; decide)) hb with ⟨v, ph1, e, ⟨f0, e0⟩, _, h2⟩ | ⟨ci, ph1, e, e1, e2, e3, ⟨f0, e0⟩, h2⟩
  · refine wr_feed hx (((r_H_feed (d := 0) e).mono (by omega)).post (fun r1 ph9 q => ?_))
    obtain ⟨rfl, q⟩ := q
    cases q
    obtain ⟨e4, hmf, w, ph2, σ', eM, hI2, e5, hmf2, hth, hP⟩ := h2 (vp_updL f0 0 v.toInt64)
    refine Or.inl ⟨v, rfl, f0, e0, 0, rfl, hmf, ((r_M_feed (d := 0) eM).mono (by omega)).post (fun r2 ph9 q => ?_)⟩
    obtain ⟨rfl, q⟩ := q
    cases q
    exact ⟨w, rfl, K _ hI2⟩
  · refine wr_feed hx (((t_H_feed (d := 0) hfl e e1 e2).mono (by omega)).post (fun r1 ph9 q => ?_))
    obtain ⟨q1, rfl⟩ := q
    refine Or.inr ⟨ph1.length, ci, q1, e3, ?_⟩
    obtain ⟨hmf, w, ph2, σ', eM, hI2, e5, hmf2, hth, hP⟩ := h2
    rcases hP with hP | hP
    · refine Or.inl ⟨hP.1, nI 1, rfl, hmf, ((r_M_feed (d := 0) eM).mono (by omega)).post (fun r2 ph9 q => ?_)⟩
      obtain ⟨rfl, q⟩ := q
      cases q
      exact ⟨w, rfl, K _ hI2⟩
    · refine Or.inr ⟨hP.1, nI 2, rfl, hmf, ((r_M_feed (d := 0) eM).mono (by omega)).post (fun r2 ph9 q => ?_)⟩
      obtain ⟨rfl, q⟩ := q
      cases q
      exact ⟨w, rfl, K _ hI2⟩
theorem cs_1 (hfl : l.flags = flags0) (hK : KT (px_ct g)) (hF : 65540 < F) (hct : px_ct g 0 = (.int, L, xs)) (hL : L ≤ 2048) (ha : a + 3 < L) (hI : INV (r + 1) ph) (K : ∀ ph2, INV r ph2 → PW l g (d + 41) m_L_law 23 [.retAddr 0, .ref 0, .ref 1726, .ref 1814, .int (nI (a + 4)), px_u, px_u, px_u] [] ph2 Q) : PW l g (d + 41) m_L_law 220 [.retAddr 0, .ref 0, .ref 1726, .ref 1814, .int (nI a), px_u, px_u, px_u] [] ph Q := by
  obtain ⟨sk, L0, own, τ, σ, fs, gs, ws, n, b, a0, Y, rfl, hk, hq, hC, hR, hm, hN⟩ := hI
  have hx := xo_some (c_o (τ := τ) (G0 hC.1))
  have hr : 8 * r ≤ 4096 := by omega
  refine law_1 (x := 0) (m := 1726) (o := 1814) (d := d + 40) hct hL ha ?_
  have hb := B_add (F := F) (c := px_ct g) (k := 210 * r) (N := 4096 - 8 * r) hK hF hC hR (RMk_le hm (by omega)) (by omega)
  rcases OUT hk hq hC.1.1 hr (fun _ _ h => by rw [h.1]; decide) hb with ⟨v, ph1, e, ⟨f0, e0⟩, _, h2⟩ | ⟨ci, ph1, e, e1, e2, e3, ⟨f0, e0⟩, h2⟩
  · refine wr_add hx (((r_H_add (d := 0) e).mono (by omega)).post (fun r1 ph9 q => ?_))
    obtain ⟨rfl, q⟩ := q
    cases q
    obtain ⟨e4, hmf, w, ph2, σ', eM, hI2, e5, hmf2, hth, hP⟩ := h2 (vp_updL f0 0 v.toInt64)
    refine Or.inl ⟨v, rfl, f0, e0, 0, rfl, hmf, ((r_M_add (d := 0) eM).mono (by omega)).post (fun r2 ph9 q => ?_)⟩
    obtain ⟨rfl, q⟩ := q
    cases q
    exact ⟨w, rfl, K _ hI2⟩
  · refine wr_add hx (((t_H_add (d := 0) hfl e e1 e2).mono (by omega)).post (fun r1 ph9 q => ?_))
    obtain ⟨q1, rfl⟩ := q
    refine Or.inr ⟨ph1.length, ci, q1, e3, ?_⟩
    obtain ⟨hmf, w, ph2, σ', eM, hI2, e5, hmf2, hth, hP⟩ := h2
    refine ⟨hP.1, nI 1, rfl, hmf, ((r_M_add (d := 0) eM).mono (by omega)).post (fun r2 ph9 q => ?_)⟩
    obtain ⟨rfl, q⟩ := q
    cases q
    exact ⟨w, rfl, K _ hI2⟩
theorem cs_2 (hfl : l.flags = flags0) (hK : KT (px_ct g)) (hF : 65540 < F) (hct : px_ct g 0 = (.int, L, xs)) (hL : L ≤ 2048) (ha : a + 3 < L) (hI : INV (r + 1) ph) (K : ∀ ph2, INV r ph2 → PW l g (d + 41) m_L_law 23 [.retAddr 0, .ref 0, .ref 1726, .ref 1814, .int (nI (a + 4)), px_u, px_u, px_u] [] ph2 Q) : PW l g (d + 41) m_L_law 236 [.retAddr 0, .ref 0, .ref 1726, .ref 1814, .int (nI a), px_u, px_u, px_u] [] ph Q := by
  obtain ⟨sk, L0, own, τ, σ, fs, gs, ws, n, b, a0, Y, rfl, hk, hq, hC, hR, hm, hN⟩ := hI
  have hx := xo_some (c_o (τ := τ) (G0 hC.1))
  have hr : 8 * r ≤ 4096 := by omega
  refine law_2 (x := 0) (m := 1726) (o := 1814) (d := d + 40) hct hL ha ?_
  have hb := B_drop (F := F) (c := px_ct g) (k := 210 * r) (N := 4096 - 8 * r) hF hC hR (RMk_le hm (by omega)) (by omega)
  rcases OUT hk hq hC.1.1 hr (fun _ _ h => by rw [h.1]; decide) hb with ⟨v, ph1, e, ⟨f0, e0⟩, _, h2⟩ | ⟨ci, ph1, e, e1, e2, e3, ⟨f0, e0⟩, h2⟩
  · refine wr_drop hx (((r_H_drop (d := 0) e).mono (by omega)).post (fun r1 ph9 q => ?_))
    obtain ⟨rfl, q⟩ := q
    cases q
    obtain ⟨e4, hmf, w, ph2, σ', eM, hI2, e5, hmf2, hth, hP⟩ := h2 (vp_updL f0 0 v.toInt64)
    refine Or.inl ⟨v, rfl, f0, e0, 0, rfl, hmf, ((r_M_drop (d := 0) eM).mono (by omega)).post (fun r2 ph9 q => ?_)⟩
    obtain ⟨rfl, q⟩ := q
    cases q
    exact ⟨w, rfl, K _ hI2⟩
  · refine wr_drop hx (((t_H_drop (d := 0) hfl e e1 e2).mono (by omega)).post (fun r1 ph9 q => ?_))
    obtain ⟨q1, rfl⟩ := q
    refine Or.inr ⟨ph1.length, ci, q1, e3, ?_⟩
    obtain ⟨hmf, w, ph2, σ', eM, hI2, e5, hmf2, hth, hP⟩ := h2
    refine ⟨hP.1, nI 1, rfl, hmf, ((r_M_drop (d := 0) eM).mono (by omega)).post (fun r2 ph9 q => ?_)⟩
    obtain ⟨rfl, q⟩ := q
    cases q
    exact ⟨w, rfl, K _ hI2⟩
theorem cs_3 (hfl : l.flags = flags0) (hK : KT (px_ct g)) (hF : 65540 < F) (hct : px_ct g 0 = (.int, L, xs)) (hL : L ≤ 2048) (ha : a + 3 < L) (hI : INV (r + 1) ph) (K : ∀ ph2, INV r ph2 → PW l g (d + 41) m_L_law 23 [.retAddr 0, .ref 0, .ref 1726, .ref 1814, .int (nI (a + 4)), px_u, px_u, px_u] [] ph2 Q) : PW l g (d + 41) m_L_law 252 [.retAddr 0, .ref 0, .ref 1726, .ref 1814, .int (nI a), px_u, px_u, px_u] [] ph Q := by
  obtain ⟨sk, L0, own, τ, σ, fs, gs, ws, n, b, a0, Y, rfl, hk, hq, hC, hR, hm, hN⟩ := hI
  have hx := xo_some (c_o (τ := τ) (G0 hC.1))
  have hr : 8 * r ≤ 4096 := by omega
  refine law_3 (x := 0) (m := 1726) (o := 1814) (d := d + 40) hct hL ha hx ?_
  obtain ⟨rc, hzb⟩ := lw_zb_b (xs (a + 1))
  rw [hzb]
  have hb := B_link (F := F) (rc := rc) (c := px_ct g) (k := 210 * r) (N := 4096 - 8 * r) hK hF hC hR (RMk_le hm (by omega)) (by omega) (by omega)
  rcases OUT hk hq hC.1.1 hr (fun _ _ h => h.elim) hb with ⟨v, ph1, e, _, h1, _⟩ | ⟨ci, ph1, e, _⟩
  · refine ((r_H_link (d := 0) e).mono (by omega)).post (fun r1 ph9 q => ?_)
    obtain ⟨rfl, q⟩ := q
    cases q
    obtain ⟨hmf, w, ph2, σ', eM, hI2, e5, hmf2, hth, hP⟩ := h1
    refine ⟨v, rfl, hmf, ((r_M_link (d := 0) eM).mono (by omega)).post (fun r2 ph9 q => ?_)⟩
    obtain ⟨rfl, q⟩ := q
    cases q
    exact ⟨w, rfl, K _ hI2⟩
  · cases e
theorem cs_4 (hfl : l.flags = flags0) (hK : KT (px_ct g)) (hF : 65540 < F) (hct : px_ct g 0 = (.int, L, xs)) (hL : L ≤ 2048) (ha : a + 3 < L) (hI : INV (r + 1) ph) (K : ∀ ph2, INV r ph2 → PW l g (d + 41) m_L_law 23 [.retAddr 0, .ref 0, .ref 1726, .ref 1814, .int (nI (a + 4)), px_u, px_u, px_u] [] ph2 Q) : PW l g (d + 41) m_L_law 293 [.retAddr 0, .ref 0, .ref 1726, .ref 1814, .int (nI a), px_u, px_u, px_u] [] ph Q := by
  obtain ⟨sk, L0, own, τ, σ, fs, gs, ws, n, b, a0, Y, rfl, hk, hq, hC, hR, hm, hN⟩ := hI
  have hx := xo_some (c_o (τ := τ) (G0 hC.1))
  have hr : 8 * r ≤ 4096 := by omega
  refine law_4 (x := 0) (m := 1726) (o := 1814) (d := d + 40) hct hL ha hx ?_
  have hb := B_merge (F := F) (c := px_ct g) (k := 210 * r) (N := 4096 - 8 * r) hK hF hC hR (RMk_le hm (by omega)) (by omega) (by omega)
  rcases OUT hk hq hC.1.1 hr (fun _ _ h => h.elim) hb with ⟨v, ph1, e, _, h1, _⟩ | ⟨ci, ph1, e, _⟩
  · refine ((r_H_merge (d := 0) e).mono (by omega)).post (fun r1 ph9 q => ?_)
    obtain ⟨rfl, q⟩ := q
    cases q
    obtain ⟨hmf, w, ph2, σ', eM, hI2, e5, hmf2, hth, hP⟩ := h1
    refine ⟨v, rfl, hmf, ((r_M_merge (d := 0) eM).mono (by omega)).post (fun r2 ph9 q => ?_)⟩
    obtain ⟨rfl, q⟩ := q
    cases q
    exact ⟨w, rfl, K _ hI2⟩
  · cases e
theorem cs_5 (hfl : l.flags = flags0) (hK : KT (px_ct g)) (hF : 65540 < F) (hct : px_ct g 0 = (.int, L, xs)) (hL : L ≤ 2048) (ha : a + 3 < L) (hI : INV (r + 1) ph) (K : ∀ ph2, INV r ph2 → PW l g (d + 41) m_L_law 23 [.retAddr 0, .ref 0, .ref 1726, .ref 1814, .int (nI (a + 4)), px_u, px_u, px_u] [] ph2 Q) : PW l g (d + 41) m_L_law 306 [.retAddr 0, .ref 0, .ref 1726, .ref 1814, .int (nI a), px_u, px_u, px_u] [] ph Q := by
  obtain ⟨sk, L0, own, τ, σ, fs, gs, ws, n, b, a0, Y, rfl, hk, hq, hC, hR, hm, hN⟩ := hI
  have hx := xo_some (c_o (τ := τ) (G0 hC.1))
  have hr : 8 * r ≤ 4096 := by omega
  refine law_5 (x := 0) (m := 1726) (o := 1814) (d := d + 40) hct hL ha ?_
  have hb := B_give (F := F) (v := (lw_jj (xs (a + 1)) (xs (a + 2)))) (c := px_ct g) (k := 210 * r) (N := 4096 - 8 * r) hF hC hR (RMk_le hm (by omega)) (by omega)
  rcases OUT hk hq hC.1.1 hr (fun _ _ h => by rcases h with h | h <;> (rw [h.1]; decide)) hb with ⟨v, ph1, e, ⟨f0, e0⟩, _, h2⟩ | ⟨ci, ph1, e, e1, e2, e3, ⟨f0, e0⟩, h2⟩
  · refine wr_give hx (((r_H_give (d := 0) e).mono (by omega)).post (fun r1 ph9 q => ?_))
    obtain ⟨rfl, q⟩ := q
    cases q
    obtain ⟨e4, hmf, w, ph2, σ', eM, hI2, e5, hmf2, hth, hP⟩ := h2 (vp_updL f0 0 v.toInt64)
    refine Or.inl ⟨v, rfl, f0, e0, 0, rfl, hmf, ((r_M_give (d := 0) eM).mono (by omega)).post (fun r2 ph9 q => ?_)⟩
    obtain ⟨rfl, q⟩ := q
    cases q
    exact ⟨w, rfl, K _ hI2⟩
  · refine wr_give hx (((t_H_give (d := 0) hfl e e1 e2).mono (by omega)).post (fun r1 ph9 q => ?_))
    obtain ⟨q1, rfl⟩ := q
    refine Or.inr ⟨ph1.length, ci, q1, e3, ?_⟩
    obtain ⟨hmf, w, ph2, σ', eM, hI2, e5, hmf2, hth, hP⟩ := h2
    rcases hP with hP | hP
    · refine Or.inl ⟨hP.1, nI 1, rfl, hmf, ((r_M_give (d := 0) eM).mono (by omega)).post (fun r2 ph9 q => ?_)⟩
      obtain ⟨rfl, q⟩ := q
      cases q
      exact ⟨w, rfl, K _ hI2⟩
    · refine Or.inr ⟨hP.1, nI 2, rfl, hmf, ((r_M_give (d := 0) eM).mono (by omega)).post (fun r2 ph9 q => ?_)⟩
      obtain ⟨rfl, q⟩ := q
      cases q
      exact ⟨w, rfl, K _ hI2⟩
theorem cs_6 (hfl : l.flags = flags0) (hK : KT (px_ct g)) (hF : 65540 < F) (hct : px_ct g 0 = (.int, L, xs)) (hL : L ≤ 2048) (ha : a + 3 < L) (hI : INV (r + 1) ph) (K : ∀ ph2, INV r ph2 → PW l g (d + 41) m_L_law 23 [.retAddr 0, .ref 0, .ref 1726, .ref 1814, .int (nI (a + 4)), px_u, px_u, px_u] [] ph2 Q) : PW l g (d + 41) m_L_law 366 [.retAddr 0, .ref 0, .ref 1726, .ref 1814, .int (nI a), px_u, px_u, px_u] [] ph Q := by
  obtain ⟨sk, L0, own, τ, σ, fs, gs, ws, n, b, a0, Y, rfl, hk, hq, hC, hR, hm, hN⟩ := hI
  have hx := xo_some (c_o (τ := τ) (G0 hC.1))
  have hr : 8 * r ≤ 4096 := by omega
  refine law_6 (x := 0) (m := 1726) (o := 1814) (d := d + 40) hct hL ha ?_
  have hb := B_wish (F := F) (c := px_ct g) (k := 210 * r) (N := 4096 - 8 * r) hF hC hR (RMk_le hm (by omega)) (by omega)
  rcases OUT hk hq hC.1.1 hr (fun _ _ h => by rcases h with h | h <;> (rw [h.1]; decide)) hb with ⟨v, ph1, e, ⟨f0, e0⟩, _, h2⟩ | ⟨ci, ph1, e, e1, e2, e3, ⟨f0, e0⟩, h2⟩
  · refine wr_wish hx (((r_H_wish (d := 0) e).mono (by omega)).post (fun r1 ph9 q => ?_))
    obtain ⟨rfl, q⟩ := q
    cases q
    obtain ⟨e4, hmf, w, ph2, σ', eM, hI2, e5, hmf2, hth, hP⟩ := h2 (vp_updL f0 0 v.toInt64)
    refine Or.inl ⟨v, rfl, f0, e0, 0, rfl, hmf, ((r_M_wish (d := 0) eM).mono (by omega)).post (fun r2 ph9 q => ?_)⟩
    obtain ⟨rfl, q⟩ := q
    cases q
    exact ⟨w, rfl, K _ hI2⟩
  · refine wr_wish hx (((t_H_wish (d := 0) hfl e e1 e2).mono (by omega)).post (fun r1 ph9 q => ?_))
    obtain ⟨q1, rfl⟩ := q
    refine Or.inr ⟨ph1.length, ci, q1, e3, ?_⟩
    obtain ⟨hmf, w, ph2, σ', eM, hI2, e5, hmf2, hth, hP⟩ := h2
    rcases hP with hP | hP
    · refine Or.inl ⟨hP.1, nI 1, rfl, hmf, ((r_M_wish (d := 0) eM).mono (by omega)).post (fun r2 ph9 q => ?_)⟩
      obtain ⟨rfl, q⟩ := q
      cases q
      exact ⟨w, rfl, K _ hI2⟩
    · refine Or.inr ⟨hP.1, nI 2, rfl, hmf, ((r_M_wish (d := 0) eM).mono (by omega)).post (fun r2 ph9 q => ?_)⟩
      obtain ⟨rfl, q⟩ := q
      cases q
      exact ⟨w, rfl, K _ hI2⟩
theorem cs_7 (hfl : l.flags = flags0) (hK : KT (px_ct g)) (hF : 65540 < F) (hct : px_ct g 0 = (.int, L, xs)) (hL : L ≤ 2048) (ha : a + 3 < L) (hI : INV (r + 1) ph) (K : ∀ ph2, INV r ph2 → PW l g (d + 41) m_L_law 23 [.retAddr 0, .ref 0, .ref 1726, .ref 1814, .int (nI (a + 4)), px_u, px_u, px_u] [] ph2 Q) : PW l g (d + 41) m_L_law 382 [.retAddr 0, .ref 0, .ref 1726, .ref 1814, .int (nI a), px_u, px_u, px_u] [] ph Q := by
  obtain ⟨sk, L0, own, τ, σ, fs, gs, ws, n, b, a0, Y, rfl, hk, hq, hC, hR, hm, hN⟩ := hI
  have hx := xo_some (c_o (τ := τ) (G0 hC.1))
  have hr : 8 * r ≤ 4096 := by omega
  refine law_7 (x := 0) (m := 1726) (o := 1814) (d := d + 40) hct hL ha hx ?_
  have hb := B_forget (F := F) (c := px_ct g) (k := 210 * r) (N := 4096 - 8 * r) hC hR (RMk_le hm (by omega)) (by omega)
  rcases OUT hk hq hC.1.1 hr (fun _ _ h => h.elim) hb with ⟨v, ph1, e, _, h1, _⟩ | ⟨ci, ph1, e, _⟩
  · refine ((r_H_forget (d := 0) e).mono (by omega)).post (fun r1 ph9 q => ?_)
    obtain ⟨rfl, q⟩ := q
    cases q
    obtain ⟨hmf, w, ph2, σ', eM, hI2, e5, hmf2, hth, hP⟩ := h1
    refine ⟨rfl, hmf, ((r_M_forget (d := 0) eM).mono (by omega)).post (fun r2 ph9 q => ?_)⟩
    obtain ⟨rfl, q⟩ := q
    cases q
    exact ⟨rfl, K _ hI2⟩
  · cases e
theorem cs_8 (hfl : l.flags = flags0) (hK : KT (px_ct g)) (hF : 65540 < F) (hct : px_ct g 0 = (.int, L, xs)) (hL : L ≤ 2048) (ha : a + 3 < L) (hI : INV (r + 1) ph) (K : ∀ ph2, INV r ph2 → PW l g (d + 41) m_L_law 23 [.retAddr 0, .ref 0, .ref 1726, .ref 1814, .int (nI (a + 4)), px_u, px_u, px_u] [] ph2 Q) : PW l g (d + 41) m_L_law 393 [.retAddr 0, .ref 0, .ref 1726, .ref 1814, .int (nI a), px_u, px_u, px_u] [] ph Q := by
  obtain ⟨sk, L0, own, τ, σ, fs, gs, ws, n, b, a0, Y, rfl, hk, hq, hC, hR, hm, hN⟩ := hI
  have hx := xo_some (c_o (τ := τ) (G0 hC.1))
  have hr : 8 * r ≤ 4096 := by omega
  refine law_8 (x := 0) (m := 1726) (o := 1814) (d := d + 40) hct hL ha hx ?_
  have hb := Bx_pack (F := F) (c := px_ct g) (k := 210 * r) (N := 4096 - 8 * r) hK hF hC hR (RMk_le hm (by omega)) (by omega)
  rcases OUT hk hq hC.1.1 hr (fun _ _ h => h.elim) hb with ⟨v, ph1, e, _, h1, _⟩ | ⟨ci, ph1, e, _⟩
  · refine ((r_H_pack (d := 0) e).mono (by omega)).post (fun r1 ph9 q => ?_)
    obtain ⟨rfl, q⟩ := q
    cases q
    obtain ⟨hmf, w, ph2, σ', eM, hI2, e5, hmf2, hth, hP⟩ := h1
    refine ⟨v, rfl, hmf, ((r_M_pack (d := 0) eM).mono (by omega)).post (fun r2 ph9 q => ?_)⟩
    obtain ⟨rfl, q⟩ := q
    cases q
    exact ⟨w, rfl, K _ hI2⟩
  · cases e
theorem cs_9 (hfl : l.flags = flags0) (hK : KT (px_ct g)) (hF : 65540 < F) (hct : px_ct g 0 = (.int, L, xs)) (hL : L ≤ 2048) (ha : a + 3 < L) (hI : INV (r + 1) ph) (K : ∀ ph2, INV r ph2 → PW l g (d + 41) m_L_law 23 [.retAddr 0, .ref 0, .ref 1726, .ref 1814, .int (nI (a + 4)), px_u, px_u, px_u] [] ph2 Q) : PW l g (d + 41) m_L_law 406 [.retAddr 0, .ref 0, .ref 1726, .ref 1814, .int (nI a), px_u, px_u, px_u] [] ph Q := by
  obtain ⟨sk, L0, own, τ, σ, fs, gs, ws, n, b, a0, Y, rfl, hk, hq, hC, hR, hm, hN⟩ := hI
  have hx := xo_some (c_o (τ := τ) (G0 hC.1))
  have hr : 8 * r ≤ 4096 := by omega
  refine law_9 (x := 0) (m := 1726) (o := 1814) (d := d + 40) hct hL ha ?_
  have hb := B_named (F := F) (c := px_ct g) (k := 210 * r) (N := 4096 - 8 * r) hK hF hC hR (RMk_le hm (by omega)) (by omega)
  rcases OUT hk hq hC.1.1 hr (fun _ _ h => by rw [h]; decide) hb with ⟨v, ph1, e, ⟨f0, e0⟩, _, h2⟩ | ⟨ci, ph1, e, e1, e2, e3, ⟨f0, e0⟩, h2⟩
  · refine wr_named hx (((r_H_named (d := 0) e).mono (by omega)).post (fun r1 ph9 q => ?_))
    obtain ⟨rfl, q⟩ := q
    cases q
    obtain ⟨e4, hmf, w, ph2, σ', eM, hI2, e5, hmf2, hth, hP⟩ := h2 (vp_updL f0 0 v.toInt64)
    refine Or.inl ⟨v, rfl, f0, e0, 0, rfl, hmf, ((r_M_named (d := 0) eM).mono (by omega)).post (fun r2 ph9 q => ?_)⟩
    obtain ⟨rfl, q⟩ := q
    cases q
    exact ⟨w, rfl, K _ hI2⟩
  · refine wr_named hx (((t_H_named (d := 0) hfl e e1 e2).mono (by omega)).post (fun r1 ph9 q => ?_))
    obtain ⟨q1, rfl⟩ := q
    refine Or.inr ⟨ph1.length, ci, q1, e3, ?_⟩
    obtain ⟨hmf, w, ph2, σ', eM, hI2, e5, hmf2, hth, hP⟩ := h2
    refine ⟨hP, nI 1, rfl, hmf, ((r_M_named (d := 0) eM).mono (by omega)).post (fun r2 ph9 q => ?_)⟩
    obtain ⟨rfl, q⟩ := q
    cases q
    exact ⟨w, rfl, K _ hI2⟩
theorem cs_10 (hfl : l.flags = flags0) (hK : KT (px_ct g)) (hF : 65540 < F) (hct : px_ct g 0 = (.int, L, xs)) (hL : L ≤ 2048) (ha : a + 3 < L) (hI : INV (r + 1) ph) (K : ∀ ph2, INV r ph2 → PW l g (d + 41) m_L_law 23 [.retAddr 0, .ref 0, .ref 1726, .ref 1814, .int (nI (a + 4)), px_u, px_u, px_u] [] ph2 Q) : PW l g (d + 41) m_L_law 422 [.retAddr 0, .ref 0, .ref 1726, .ref 1814, .int (nI a), px_u, px_u, px_u] [] ph Q := by
  obtain ⟨sk, L0, own, τ, σ, fs, gs, ws, n, b, a0, Y, rfl, hk, hq, hC, hR, hm, hN⟩ := hI
  have hx := xo_some (c_o (τ := τ) (G0 hC.1))
  have hr : 8 * r ≤ 4096 := by omega
  refine law_10 (x := 0) (m := 1726) (o := 1814) (d := d + 40) hct hL ha hx ?_
  have hb := B_near (F := F) (x := (lw_jj (xs (a + 1)) (xs (a + 2)))) (c := px_ct g) (k := 210 * r) (N := 4096 - 8 * r) hF hC hR (RMk_le hm (by omega)) (by omega)
  rcases OUT hk hq hC.1.1 hr (fun _ _ h => h.elim) hb with ⟨v, ph1, e, _, h1, _⟩ | ⟨ci, ph1, e, _⟩
  · refine ((r_H_near (d := 0) e).mono (by omega)).post (fun r1 ph9 q => ?_)
    obtain ⟨rfl, q⟩ := q
    cases q
    obtain ⟨hmf, w, ph2, σ', eM, hI2, e5, hmf2, hth, hP⟩ := h1
    refine ⟨v, rfl, hmf, ((r_M_near (d := 0) eM).mono (by omega)).post (fun r2 ph9 q => ?_)⟩
    obtain ⟨rfl, q⟩ := q
    cases q
    exact ⟨w, rfl, K _ hI2⟩
  · cases e
theorem cs_11 (hfl : l.flags = flags0) (hK : KT (px_ct g)) (hF : 65540 < F) (hct : px_ct g 0 = (.int, L, xs)) (hL : L ≤ 2048) (ha : a + 3 < L) (hI : INV (r + 1) ph) (K : ∀ ph2, INV r ph2 → PW l g (d + 41) m_L_law 23 [.retAddr 0, .ref 0, .ref 1726, .ref 1814, .int (nI (a + 4)), px_u, px_u, px_u] [] ph2 Q) : PW l g (d + 41) m_L_law 479 [.retAddr 0, .ref 0, .ref 1726, .ref 1814, .int (nI a), px_u, px_u, px_u] [] ph Q := by
  obtain ⟨sk, L0, own, τ, σ, fs, gs, ws, n, b, a0, Y, rfl, hk, hq, hC, hR, hm, hN⟩ := hI
  have hx := xo_some (c_o (τ := τ) (G0 hC.1))
  have hr : 8 * r ≤ 4096 := by omega
  refine law_11 (x := 0) (m := 1726) (o := 1814) (d := d + 40) hct hL ha ?_
  have hb := Bx_list (F := F) (y := (xs (a + 2))) (x := (xs (a + 1))) (c := px_ct g) (k := 210 * r) (N := 4096 - 8 * r) hF hC hR (RMk_le hm (by omega)) (by omega)
  rcases OUT hk hq hC.1.1 hr (fun _ _ h => by rw [h.1]; decide) hb with ⟨v, ph1, e, ⟨f0, e0⟩, _, h2⟩ | ⟨ci, ph1, e, e1, e2, e3, ⟨f0, e0⟩, h2⟩
  · refine wr_list hx (((r_H_list (d := 0) e).mono (by omega)).post (fun r1 ph9 q => ?_))
    obtain ⟨rfl, q⟩ := q
    cases q
    obtain ⟨e4, hmf, w, ph2, σ', eM, hI2, e5, hmf2, hth, hP⟩ := h2 (vp_updL f0 0 v.toInt64)
    refine Or.inl ⟨v, rfl, f0, e0, 0, rfl, hmf, ((r_M_list (d := 0) eM).mono (by omega)).post (fun r2 ph9 q => ?_)⟩
    obtain ⟨rfl, q⟩ := q
    cases q
    exact ⟨w, rfl, K _ hI2⟩
  · refine wr_list hx (((t_H_list (d := 0) hfl e e1 e2).mono (by omega)).post (fun r1 ph9 q => ?_))
    obtain ⟨q1, rfl⟩ := q
    refine Or.inr ⟨ph1.length, ci, q1, e3, ?_⟩
    obtain ⟨hmf, w, ph2, σ', eM, hI2, e5, hmf2, hth, hP⟩ := h2
    refine ⟨hP.1, nI 1, rfl, hmf, ((r_M_list (d := 0) eM).mono (by omega)).post (fun r2 ph9 q => ?_)⟩
    obtain ⟨rfl, q⟩ := q
    cases q
    exact ⟨w, rfl, K _ hI2⟩
theorem cs_12 (hfl : l.flags = flags0) (hK : KT (px_ct g)) (hF : 65540 < F) (hct : px_ct g 0 = (.int, L, xs)) (hL : L ≤ 2048) (ha : a + 3 < L) (hI : INV (r + 1) ph) (K : ∀ ph2, INV r ph2 → PW l g (d + 41) m_L_law 23 [.retAddr 0, .ref 0, .ref 1726, .ref 1814, .int (nI (a + 4)), px_u, px_u, px_u] [] ph2 Q) : PW l g (d + 41) m_L_law 519 [.retAddr 0, .ref 0, .ref 1726, .ref 1814, .int (nI a), px_u, px_u, px_u] [] ph Q := by
  obtain ⟨sk, L0, own, τ, σ, fs, gs, ws, n, b, a0, Y, rfl, hk, hq, hC, hR, hm, hN⟩ := hI
  have hx := xo_some (c_o (τ := τ) (G0 hC.1))
  have hr : 8 * r ≤ 4096 := by omega
  refine law_12 (x := 0) (m := 1726) (o := 1814) (d := d + 40) hct hL ha ?_
  have hb := Bx_sum (F := F) (z := (xs (a + 3))) (y := (xs (a + 2))) (x := (xs (a + 1))) (c := px_ct g) (k := 210 * r) (N := 4096 - 8 * r) hF hC hR (RMk_le hm (by omega)) (by omega)
  rcases OUT hk hq hC.1.1 hr (fun _ _ h => by rw [h.1]; decide) hb with ⟨v, ph1, e, ⟨f0, e0⟩, _, h2⟩ | ⟨ci, ph1, e, e1, e2, e3, ⟨f0, e0⟩, h2⟩
  · refine wr_sum hx (((r_H_sum (d := 0) e).mono (by omega)).post (fun r1 ph9 q => ?_))
    obtain ⟨rfl, q⟩ := q
    cases q
    obtain ⟨e4, hmf, w, ph2, σ', eM, hI2, e5, hmf2, hth, hP⟩ := h2 (vp_updL f0 0 v)
    refine Or.inl ⟨v, rfl, f0, e0, 0, rfl, hmf, ((r_M_sum (d := 0) eM).mono (by omega)).post (fun r2 ph9 q => ?_)⟩
    obtain ⟨rfl, q⟩ := q
    cases q
    exact ⟨w, rfl, K _ hI2⟩
  · refine wr_sum hx (((t_H_sum (d := 0) hfl e e1 e2).mono (by omega)).post (fun r1 ph9 q => ?_))
    obtain ⟨q1, rfl⟩ := q
    refine Or.inr ⟨ph1.length, ci, q1, e3, ?_⟩
    obtain ⟨hmf, w, ph2, σ', eM, hI2, e5, hmf2, hth, hP⟩ := h2
    refine ⟨hP.1, nI 1, rfl, hmf, ((r_M_sum (d := 0) eM).mono (by omega)).post (fun r2 ph9 q => ?_)⟩
    obtain ⟨rfl, q⟩ := q
    cases q
    exact ⟨w, rfl, K _ hI2⟩
theorem cs_13 (hfl : l.flags = flags0) (hK : KT (px_ct g)) (hF : 65540 < F) (hct : px_ct g 0 = (.int, L, xs)) (hL : L ≤ 2048) (ha : a + 3 < L) (hI : INV (r + 1) ph) (K : ∀ ph2, INV r ph2 → PW l g (d + 41) m_L_law 23 [.retAddr 0, .ref 0, .ref 1726, .ref 1814, .int (nI (a + 4)), px_u, px_u, px_u] [] ph2 Q) : PW l g (d + 41) m_L_law 571 [.retAddr 0, .ref 0, .ref 1726, .ref 1814, .int (nI a), px_u, px_u, px_u] [] ph Q := by
  obtain ⟨sk, L0, own, τ, σ, fs, gs, ws, n, b, a0, Y, rfl, hk, hq, hC, hR, hm, hN⟩ := hI
  have hx := xo_some (c_o (τ := τ) (G0 hC.1))
  have hr : 8 * r ≤ 4096 := by omega
  refine law_13 (x := 0) (m := 1726) (o := 1814) (d := d + 40) hct hL ha ?_
  have hb := B_map (F := F) (c := px_ct g) (k := 210 * r) (N := 4096 - 8 * r) hF hC hR (RMk_le hm (by omega)) (by omega)
  rcases OUT hk hq hC.1.1 hr (fun _ _ h => by rw [h]; decide) hb with ⟨v, ph1, e, ⟨f0, e0⟩, _, h2⟩ | ⟨ci, ph1, e, e1, e2, e3, ⟨f0, e0⟩, h2⟩
  · refine wr_map hx (((r_H_map (d := 0) e).mono (by omega)).post (fun r1 ph9 q => ?_))
    obtain ⟨rfl, q⟩ := q
    cases q
    obtain ⟨e4, hmf, w, ph2, σ', eM, hI2, e5, hmf2, hth, hP⟩ := h2 (vp_updL f0 0 v.toInt64)
    refine Or.inl ⟨v, rfl, f0, e0, 0, rfl, hmf, ((r_M_map (d := 0) eM).mono (by omega)).post (fun r2 ph9 q => ?_)⟩
    obtain ⟨rfl, q⟩ := q
    cases q
    exact ⟨w, rfl, K _ hI2⟩
  · refine wr_map hx (((t_H_map (d := 0) hfl e e1 e2).mono (by omega)).post (fun r1 ph9 q => ?_))
    obtain ⟨q1, rfl⟩ := q
    refine Or.inr ⟨ph1.length, ci, q1, e3, ?_⟩
    obtain ⟨hmf, w, ph2, σ', eM, hI2, e5, hmf2, hth, hP⟩ := h2
    refine ⟨hP, nI 1, rfl, hmf, ((r_M_map (d := 0) eM).mono (by omega)).post (fun r2 ph9 q => ?_)⟩
    obtain ⟨rfl, q⟩ := q
    cases q
    exact ⟨w, rfl, K _ hI2⟩
theorem cs_14 (hfl : l.flags = flags0) (hK : KT (px_ct g)) (hF : 65540 < F) (hct : px_ct g 0 = (.int, L, xs)) (hL : L ≤ 2048) (ha : a + 3 < L) (hI : INV (r + 1) ph) (K : ∀ ph2, INV r ph2 → PW l g (d + 41) m_L_law 23 [.retAddr 0, .ref 0, .ref 1726, .ref 1814, .int (nI (a + 4)), px_u, px_u, px_u] [] ph2 Q) : PW l g (d + 41) m_L_law 587 [.retAddr 0, .ref 0, .ref 1726, .ref 1814, .int (nI a), px_u, px_u, px_u] [] ph Q := by
  obtain ⟨sk, L0, own, τ, σ, fs, gs, ws, n, b, a0, Y, rfl, hk, hq, hC, hR, hm, hN⟩ := hI
  have hx := xo_some (c_o (τ := τ) (G0 hC.1))
  have hr : 8 * r ≤ 4096 := by omega
  refine law_14 (x := 0) (m := 1726) (o := 1814) (d := d + 40) hct hL ha ?_
  have hb := B_address (F := F) (c := px_ct g) (k := 210 * r) (N := 4096 - 8 * r) hF hC hR (RMk_le hm (by omega)) (by omega)
  rcases OUT hk hq hC.1.1 hr (fun _ _ h => by rw [h]; decide) hb with ⟨v, ph1, e, ⟨f0, e0⟩, _, h2⟩ | ⟨ci, ph1, e, e1, e2, e3, ⟨f0, e0⟩, h2⟩
  · refine wr_address hx (((r_H_address (d := 0) e).mono (by omega)).post (fun r1 ph9 q => ?_))
    obtain ⟨rfl, q⟩ := q
    cases q
    obtain ⟨e4, hmf, w, ph2, σ', eM, hI2, e5, hmf2, hth, hP⟩ := h2 (vp_updL f0 0 v)
    refine Or.inl ⟨v, rfl, f0, e0, 0, rfl, hmf, ((r_M_address (d := 0) eM).mono (by omega)).post (fun r2 ph9 q => ?_)⟩
    obtain ⟨rfl, q⟩ := q
    cases q
    exact ⟨w, rfl, K _ hI2⟩
  · refine wr_address hx (((t_H_address (d := 0) hfl e e1 e2).mono (by omega)).post (fun r1 ph9 q => ?_))
    obtain ⟨q1, rfl⟩ := q
    refine Or.inr ⟨ph1.length, ci, q1, e3, ?_⟩
    obtain ⟨hmf, w, ph2, σ', eM, hI2, e5, hmf2, hth, hP⟩ := h2
    refine ⟨hP, nI 1, rfl, hmf, ((r_M_address (d := 0) eM).mono (by omega)).post (fun r2 ph9 q => ?_)⟩
    obtain ⟨rfl, q⟩ := q
    cases q
    exact ⟨w, rfl, K _ hI2⟩
theorem cs_15 (hfl : l.flags = flags0) (hK : KT (px_ct g)) (hF : 65540 < F) (hct : px_ct g 0 = (.int, L, xs)) (hL : L ≤ 2048) (ha : a + 3 < L) (hI : INV (r + 1) ph) (K : ∀ ph2, INV r ph2 → PW l g (d + 41) m_L_law 23 [.retAddr 0, .ref 0, .ref 1726, .ref 1814, .int (nI (a + 4)), px_u, px_u, px_u] [] ph2 Q) : PW l g (d + 41) m_L_law 603 [.retAddr 0, .ref 0, .ref 1726, .ref 1814, .int (nI a), px_u, px_u, px_u] [] ph Q := by
  obtain ⟨sk, L0, own, τ, σ, fs, gs, ws, n, b, a0, Y, rfl, hk, hq, hC, hR, hm, hN⟩ := hI
  have hx := xo_some (c_o (τ := τ) (G0 hC.1))
  have hr : 8 * r ≤ 4096 := by omega
  refine law_15 (x := 0) (m := 1726) (o := 1814) (d := d + 40) hct hL ha ?_
  have hb := Bx_taken (F := F) (y := (xs (a + 2))) (x := (xs (a + 1))) (c := px_ct g) (k := 210 * r) (N := 4096 - 8 * r) hC hR (RMk_le hm (by omega)) (by omega)
  rcases OUT hk hq hC.1.1 hr (fun _ _ h => by rw [h.1]; decide) hb with ⟨v, ph1, e, ⟨f0, e0⟩, _, h2⟩ | ⟨ci, ph1, e, e1, e2, e3, ⟨f0, e0⟩, h2⟩
  · refine wr_taken hx (((r_H_taken (d := 0) e).mono (by omega)).post (fun r1 ph9 q => ?_))
    obtain ⟨rfl, q⟩ := q
    cases q
    obtain ⟨e4, hmf, w, ph2, σ', eM, hI2, e5, hmf2, hth, hP⟩ := h2 (vp_updL f0 0 (if v = 0 then 0 else 1))
    refine Or.inl ⟨v, rfl, f0, e0, 0, rfl, hmf, ((r_M_taken (d := 0) eM).mono (by omega)).post (fun r2 ph9 q => ?_)⟩
    obtain ⟨rfl, q⟩ := q
    cases q
    exact ⟨w, rfl, K _ hI2⟩
  · refine wr_taken hx (((t_H_taken (d := 0) hfl e e1 e2).mono (by omega)).post (fun r1 ph9 q => ?_))
    obtain ⟨q1, rfl⟩ := q
    refine Or.inr ⟨ph1.length, ci, q1, e3, ?_⟩
    obtain ⟨hmf, w, ph2, σ', eM, hI2, e5, hmf2, hth, hP⟩ := h2
    refine ⟨hP.1, nI 1, rfl, hmf, ((r_M_taken (d := 0) eM).mono (by omega)).post (fun r2 ph9 q => ?_)⟩
    obtain ⟨rfl, q⟩ := q
    cases q
    exact ⟨w, rfl, K _ hI2⟩
theorem cs_16 (hfl : l.flags = flags0) (hK : KT (px_ct g)) (hF : 65540 < F) (hct : px_ct g 0 = (.int, L, xs)) (hL : L ≤ 2048) (ha : a + 3 < L) (hI : INV (r + 1) ph) (K : ∀ ph2, INV r ph2 → PW l g (d + 41) m_L_law 23 [.retAddr 0, .ref 0, .ref 1726, .ref 1814, .int (nI (a + 4)), px_u, px_u, px_u] [] ph2 Q) : PW l g (d + 41) m_L_law 643 [.retAddr 0, .ref 0, .ref 1726, .ref 1814, .int (nI a), px_u, px_u, px_u] [] ph Q := by
  obtain ⟨sk, L0, own, τ, σ, fs, gs, ws, n, b, a0, Y, rfl, hk, hq, hC, hR, hm, hN⟩ := hI
  have hx := xo_some (c_o (τ := τ) (G0 hC.1))
  have hr : 8 * r ≤ 4096 := by omega
  refine law_16 (x := 0) (m := 1726) (o := 1814) (d := d + 40) hct hL ha ?_
  have hb := B_cause (F := F) (y := (xs (a + 2))) (x := (xs (a + 1))) (c := px_ct g) (k := 210 * r) (N := 4096 - 8 * r) hF hC hR (RMk_le hm (by omega)) (by omega)
  rcases OUT hk hq hC.1.1 hr (fun _ _ h => by rw [h]; decide) hb with ⟨v, ph1, e, ⟨f0, e0⟩, _, h2⟩ | ⟨ci, ph1, e, e1, e2, e3, ⟨f0, e0⟩, h2⟩
  · refine wr_cause hx (((r_H_cause (d := 0) e).mono (by omega)).post (fun r1 ph9 q => ?_))
    obtain ⟨rfl, q⟩ := q
    cases q
    obtain ⟨e4, hmf, w, ph2, σ', eM, hI2, e5, hmf2, hth, hP⟩ := h2 (vp_updL f0 0 v.toInt64)
    refine Or.inl ⟨v, rfl, f0, e0, 0, rfl, hmf, ((r_M_cause (d := 0) eM).mono (by omega)).post (fun r2 ph9 q => ?_)⟩
    obtain ⟨rfl, q⟩ := q
    cases q
    exact ⟨w, rfl, K _ hI2⟩
  · refine wr_cause hx (((t_H_cause (d := 0) hfl e e1 e2).mono (by omega)).post (fun r1 ph9 q => ?_))
    obtain ⟨q1, rfl⟩ := q
    refine Or.inr ⟨ph1.length, ci, q1, e3, ?_⟩
    obtain ⟨hmf, w, ph2, σ', eM, hI2, e5, hmf2, hth, hP⟩ := h2
    refine ⟨hP, nI 1, rfl, hmf, ((r_M_cause (d := 0) eM).mono (by omega)).post (fun r2 ph9 q => ?_)⟩
    obtain ⟨rfl, q⟩ := q
    cases q
    exact ⟨w, rfl, K _ hI2⟩
theorem cs_17 (hfl : l.flags = flags0) (hK : KT (px_ct g)) (hF : 65540 < F) (hct : px_ct g 0 = (.int, L, xs)) (hL : L ≤ 2048) (ha : a + 3 < L) (hI : INV (r + 1) ph) (K : ∀ ph2, INV r ph2 → PW l g (d + 41) m_L_law 23 [.retAddr 0, .ref 0, .ref 1726, .ref 1814, .int (nI (a + 4)), px_u, px_u, px_u] [] ph2 Q) : PW l g (d + 41) m_L_law 683 [.retAddr 0, .ref 0, .ref 1726, .ref 1814, .int (nI a), px_u, px_u, px_u] [] ph Q := by
  obtain ⟨sk, L0, own, τ, σ, fs, gs, ws, n, b, a0, Y, rfl, hk, hq, hC, hR, hm, hN⟩ := hI
  have hx := xo_some (c_o (τ := τ) (G0 hC.1))
  have hr : 8 * r ≤ 4096 := by omega
  refine law_17 (x := 0) (m := 1726) (o := 1814) (d := d + 40) hct hL ha ?_
  have hb := Bx_section (F := F) (y := (xs (a + 2))) (x := (xs (a + 1))) (c := px_ct g) (k := 210 * r) (N := 4096 - 8 * r) hC hR (RMk_le hm (by omega)) (by omega)
  rcases OUT hk hq hC.1.1 hr (fun _ _ h => by rcases h with h | h <;> (rw [h.1]; decide)) hb with ⟨v, ph1, e, ⟨f0, e0⟩, _, h2⟩ | ⟨ci, ph1, e, e1, e2, e3, ⟨f0, e0⟩, h2⟩
  · refine wr_section hx (((r_H_section (d := 0) e).mono (by omega)).post (fun r1 ph9 q => ?_))
    obtain ⟨rfl, q⟩ := q
    cases q
    obtain ⟨e4, hmf, w, ph2, σ', eM, hI2, e5, hmf2, hth, hP⟩ := h2 (vp_updL f0 0 v.toInt64)
    refine Or.inl ⟨v, rfl, f0, e0, 0, rfl, hmf, ((r_M_section (d := 0) eM).mono (by omega)).post (fun r2 ph9 q => ?_)⟩
    obtain ⟨rfl, q⟩ := q
    cases q
    exact ⟨w, rfl, K _ hI2⟩
  · refine wr_section hx (((t_H_section (d := 0) hfl e e1 e2).mono (by omega)).post (fun r1 ph9 q => ?_))
    obtain ⟨q1, rfl⟩ := q
    refine Or.inr ⟨ph1.length, ci, q1, e3, ?_⟩
    obtain ⟨hmf, w, ph2, σ', eM, hI2, e5, hmf2, hth, hP⟩ := h2
    rcases hP with hP | hP
    · refine Or.inl ⟨hP.1, nI 1, rfl, hmf, ((r_M_section (d := 0) eM).mono (by omega)).post (fun r2 ph9 q => ?_)⟩
      obtain ⟨rfl, q⟩ := q
      cases q
      exact ⟨w, rfl, K _ hI2⟩
    · refine Or.inr ⟨hP.1, nI 2, rfl, hmf, ((r_M_section (d := 0) eM).mono (by omega)).post (fun r2 ph9 q => ?_)⟩
      obtain ⟨rfl, q⟩ := q
      cases q
      exact ⟨w, rfl, K _ hI2⟩
theorem cs_18 (hfl : l.flags = flags0) (hK : KT (px_ct g)) (hF : 65540 < F) (hct : px_ct g 0 = (.int, L, xs)) (hL : L ≤ 2048) (ha : a + 3 < L) (hI : INV (r + 1) ph) (K : ∀ ph2, INV r ph2 → PW l g (d + 41) m_L_law 23 [.retAddr 0, .ref 0, .ref 1726, .ref 1814, .int (nI (a + 4)), px_u, px_u, px_u] [] ph2 Q) : PW l g (d + 41) m_L_law 723 [.retAddr 0, .ref 0, .ref 1726, .ref 1814, .int (nI a), px_u, px_u, px_u] [] ph Q := by
  obtain ⟨sk, L0, own, τ, σ, fs, gs, ws, n, b, a0, Y, rfl, hk, hq, hC, hR, hm, hN⟩ := hI
  have hx := xo_some (c_o (τ := τ) (G0 hC.1))
  have hr : 8 * r ≤ 4096 := by omega
  refine law_18 (x := 0) (m := 1726) (o := 1814) (d := d + 40) hct hL ha ?_
  have hb := Bx_place (F := F) (x := (xs (a + 1))) (c := px_ct g) (k := 210 * r) (N := 4096 - 8 * r) hC hR (RMk_le hm (by omega)) (by omega)
  rcases OUT hk hq hC.1.1 hr (fun _ _ h => by rcases h with h | h <;> (rw [h.1]; decide)) hb with ⟨v, ph1, e, ⟨f0, e0⟩, _, h2⟩ | ⟨ci, ph1, e, e1, e2, e3, ⟨f0, e0⟩, h2⟩
  · refine wr_place hx (((r_H_place (d := 0) e).mono (by omega)).post (fun r1 ph9 q => ?_))
    obtain ⟨rfl, q⟩ := q
    cases q
    obtain ⟨e4, hmf, w, ph2, σ', eM, hI2, e5, hmf2, hth, hP⟩ := h2 (vp_updL f0 0 v)
    refine Or.inl ⟨v, rfl, f0, e0, 0, rfl, hmf, ((r_M_place (d := 0) eM).mono (by omega)).post (fun r2 ph9 q => ?_)⟩
    obtain ⟨rfl, q⟩ := q
    cases q
    obtain ⟨hv, h0⟩ := hP
    refine ⟨w, rfl, hmf2, ((r_M_thrown (d := 0) (hth F)).mono (by omega)).post (fun r3 ph9 q => ?_)⟩
    obtain ⟨rfl, q⟩ := q
    cases q
    refine ⟨by rw [h0]; rfl, ⟨_, e5.trans e4, fun _ => ?_⟩, K _ hI2⟩
    rw [hv]
    rfl
  · refine wr_place hx (((t_H_place (d := 0) hfl e e1 e2).mono (by omega)).post (fun r1 ph9 q => ?_))
    obtain ⟨q1, rfl⟩ := q
    refine Or.inr ⟨ph1.length, ci, q1, e3, ?_⟩
    obtain ⟨hmf, w, ph2, σ', eM, hI2, e5, hmf2, hth, hP⟩ := h2
    rcases hP with hP | hP
    · refine Or.inl ⟨hP.1, nI 1, rfl, hmf, ((r_M_place (d := 0) eM).mono (by omega)).post (fun r2 ph9 q => ?_)⟩
      obtain ⟨rfl, q⟩ := q
      cases q
      refine ⟨w, rfl, hmf2, ((r_M_thrown (d := 0) (hth F)).mono (by omega)).post (fun r3 ph9 q => ?_)⟩
      obtain ⟨rfl, q⟩ := q
      cases q
      exact ⟨by rw [hP.2], ⟨_, e5.trans e0, fun h9 => absurd h9 (by decide)⟩, K _ hI2⟩
    · refine Or.inr ⟨hP.1, nI 2, rfl, hmf, ((r_M_place (d := 0) eM).mono (by omega)).post (fun r2 ph9 q => ?_)⟩
      obtain ⟨rfl, q⟩ := q
      cases q
      refine ⟨w, rfl, hmf2, ((r_M_thrown (d := 0) (hth F)).mono (by omega)).post (fun r3 ph9 q => ?_)⟩
      obtain ⟨rfl, q⟩ := q
      cases q
      exact ⟨by rw [hP.2], ⟨_, e5.trans e0, fun h9 => absurd h9 (by decide)⟩, K _ hI2⟩
theorem cs_19 (hfl : l.flags = flags0) (hK : KT (px_ct g)) (hF : 65540 < F) (hct : px_ct g 0 = (.int, L, xs)) (hL : L ≤ 2048) (ha : a + 3 < L) (hI : INV (r + 1) ph) (K : ∀ ph2, INV r ph2 → PW l g (d + 41) m_L_law 23 [.retAddr 0, .ref 0, .ref 1726, .ref 1814, .int (nI (a + 4)), px_u, px_u, px_u] [] ph2 Q) : PW l g (d + 41) m_L_law 778 [.retAddr 0, .ref 0, .ref 1726, .ref 1814, .int (nI a), px_u, px_u, px_u] [] ph Q := by
  obtain ⟨sk, L0, own, τ, σ, fs, gs, ws, n, b, a0, Y, rfl, hk, hq, hC, hR, hm, hN⟩ := hI
  have hx := xo_some (c_o (τ := τ) (G0 hC.1))
  have hr : 8 * r ≤ 4096 := by omega
  refine law_19 (x := 0) (m := 1726) (o := 1814) (d := d + 40) hct hL ha hx ?_
  obtain ⟨rc, hzb⟩ := lw_zb_b (xs (a + 1))
  rw [hzb]
  have hb := B_boot (F := F) (x := bI rc) (c := px_ct g) (k := 210 * r) (N := 4096 - 8 * r) hK hF hC hR (RMk_le hm (by omega)) (by omega)
  rcases OUT hk hq hC.1.1 hr (fun _ _ h => h.elim) hb with ⟨v, ph1, e, _, h1, _⟩ | ⟨ci, ph1, e, _⟩
  · refine ((r_H_boot (d := 0) e).mono (by omega)).post (fun r1 ph9 q => ?_)
    obtain ⟨rfl, q⟩ := q
    cases q
    obtain ⟨hmf, w, ph2, σ', eM, hI2, e5, hmf2, hth, hP⟩ := h1
    refine ⟨v, rfl, hmf, ((r_M_boot (d := 0) eM).mono (by omega)).post (fun r2 ph9 q => ?_)⟩
    obtain ⟨rfl, q⟩ := q
    cases q
    exact ⟨w, rfl, K _ hI2⟩
  · cases e
theorem cs_20 (hfl : l.flags = flags0) (hK : KT (px_ct g)) (hF : 65540 < F) (hct : px_ct g 0 = (.int, L, xs)) (hL : L ≤ 2048) (ha : a + 3 < L) (hI : INV (r + 1) ph) (K : ∀ ph2, INV r ph2 → PW l g (d + 41) m_L_law 23 [.retAddr 0, .ref 0, .ref 1726, .ref 1814, .int (nI (a + 4)), px_u, px_u, px_u] [] ph2 Q) : PW l g (d + 41) m_L_law 819 [.retAddr 0, .ref 0, .ref 1726, .ref 1814, .int (nI a), px_u, px_u, px_u] [] ph Q := by
  obtain ⟨sk, L0, own, τ, σ, fs, gs, ws, n, b, a0, Y, rfl, hk, hq, hC, hR, hm, hN⟩ := hI
  have hx := xo_some (c_o (τ := τ) (G0 hC.1))
  have hr : 8 * r ≤ 4096 := by omega
  refine law_20 (x := 0) (m := 1726) (o := 1814) (d := d + 40) hct hL ha hx ?_
  have hb := B_peek (F := F) (x := (lw_jj (xs (a + 1)) (xs (a + 2)))) (c := px_ct g) (k := 210 * r) (N := 4096 - 8 * r) hF hC hR (RMk_le hm (by omega)) (by omega)
  rcases OUT hk hq hC.1.1 hr (fun _ _ h => h.elim) hb with ⟨v, ph1, e, _, h1, _⟩ | ⟨ci, ph1, e, _⟩
  · refine ((r_H_peek (d := 0) e).mono (by omega)).post (fun r1 ph9 q => ?_)
    obtain ⟨rfl, q⟩ := q
    cases q
    obtain ⟨hmf, w, ph2, σ', eM, hI2, e5, hmf2, hth, hP⟩ := h1
    refine ⟨v, rfl, hmf, ((r_M_peek (d := 0) eM).mono (by omega)).post (fun r2 ph9 q => ?_)⟩
    obtain ⟨rfl, q⟩ := q
    cases q
    exact ⟨w, rfl, K _ hI2⟩
  · cases e
theorem cs_21 (hfl : l.flags = flags0) (hK : KT (px_ct g)) (hF : 65540 < F) (hct : px_ct g 0 = (.int, L, xs)) (hL : L ≤ 2048) (ha : a + 3 < L) (hI : INV (r + 1) ph) (K : ∀ ph2, INV r ph2 → PW l g (d + 41) m_L_law 23 [.retAddr 0, .ref 0, .ref 1726, .ref 1814, .int (nI (a + 4)), px_u, px_u, px_u] [] ph2 Q) : PW l g (d + 41) m_L_law 876 [.retAddr 0, .ref 0, .ref 1726, .ref 1814, .int (nI a), px_u, px_u, px_u] [] ph Q := by
  obtain ⟨sk, L0, own, τ, σ, fs, gs, ws, n, b, a0, Y, rfl, hk, hq, hC, hR, hm, hN⟩ := hI
  have hx := xo_some (c_o (τ := τ) (G0 hC.1))
  have hr : 8 * r ≤ 4096 := by omega
  refine law_21 (x := 0) (m := 1726) (o := 1814) (d := d + 40) hct hL ha hx ?_
  have hb := B_flags (F := F) (x := (lw_jj (xs (a + 1)) (xs (a + 2)))) (c := px_ct g) (k := 210 * r) (N := 4096 - 8 * r) hF hC hR (RMk_le hm (by omega)) (by omega)
  rcases OUT hk hq hC.1.1 hr (fun _ _ h => h.elim) hb with ⟨v, ph1, e, _, h1, _⟩ | ⟨ci, ph1, e, _⟩
  · refine ((r_H_flags (d := 0) e).mono (by omega)).post (fun r1 ph9 q => ?_)
    obtain ⟨rfl, q⟩ := q
    cases q
    obtain ⟨hmf, w, ph2, σ', eM, hI2, e5, hmf2, hth, hP⟩ := h1
    refine ⟨v, rfl, hmf, ((r_M_flags (d := 0) eM).mono (by omega)).post (fun r2 ph9 q => ?_)⟩
    obtain ⟨rfl, q⟩ := q
    cases q
    exact ⟨w, rfl, K _ hI2⟩
  · cases e
theorem cs_22 (hfl : l.flags = flags0) (hK : KT (px_ct g)) (hF : 65540 < F) (hct : px_ct g 0 = (.int, L, xs)) (hL : L ≤ 2048) (ha : a + 3 < L) (hI : INV (r + 1) ph) (K : ∀ ph2, INV r ph2 → PW l g (d + 41) m_L_law 23 [.retAddr 0, .ref 0, .ref 1726, .ref 1814, .int (nI (a + 4)), px_u, px_u, px_u] [] ph2 Q) : PW l g (d + 41) m_L_law 933 [.retAddr 0, .ref 0, .ref 1726, .ref 1814, .int (nI a), px_u, px_u, px_u] [] ph Q := by
  obtain ⟨sk, L0, own, τ, σ, fs, gs, ws, n, b, a0, Y, rfl, hk, hq, hC, hR, hm, hN⟩ := hI
  have hx := xo_some (c_o (τ := τ) (G0 hC.1))
  have hr : 8 * r ≤ 4096 := by omega
  refine law_22 (x := 0) (m := 1726) (o := 1814) (d := d + 40) hct hL ha ?_
  have hb := B_out (F := F) (x := (xs (a + 1))) (c := px_ct g) (k := 210 * r) (N := 4096 - 8 * r) hF hC hR (RMk_le hm (by omega)) (by omega)
  rcases OUT hk hq hC.1.1 hr (fun _ _ h => by rw [h]; decide) hb with ⟨v, ph1, e, ⟨f0, e0⟩, _, h2⟩ | ⟨ci, ph1, e, e1, e2, e3, ⟨f0, e0⟩, h2⟩
  · refine wr_out hx (((r_H_out (d := 0) e).mono (by omega)).post (fun r1 ph9 q => ?_))
    obtain ⟨rfl, q⟩ := q
    cases q
    obtain ⟨e4, hmf, w, ph2, σ', eM, hI2, e5, hmf2, hth, hP⟩ := h2 (vp_updL f0 0 v)
    refine Or.inl ⟨v, rfl, f0, e0, 0, rfl, hmf, ((r_M_out (d := 0) eM).mono (by omega)).post (fun r2 ph9 q => ?_)⟩
    obtain ⟨rfl, q⟩ := q
    cases q
    exact ⟨w, rfl, K _ hI2⟩
  · refine wr_out hx (((t_H_out (d := 0) hfl e e1 e2).mono (by omega)).post (fun r1 ph9 q => ?_))
    obtain ⟨q1, rfl⟩ := q
    refine Or.inr ⟨ph1.length, ci, q1, e3, ?_⟩
    obtain ⟨hmf, w, ph2, σ', eM, hI2, e5, hmf2, hth, hP⟩ := h2
    refine ⟨hP, nI 1, rfl, hmf, ((r_M_out (d := 0) eM).mono (by omega)).post (fun r2 ph9 q => ?_)⟩
    obtain ⟨rfl, q⟩ := q
    cases q
    exact ⟨w, rfl, K _ hI2⟩
theorem cs_23 (hfl : l.flags = flags0) (hK : KT (px_ct g)) (hF : 65540 < F) (hct : px_ct g 0 = (.int, L, xs)) (hL : L ≤ 2048) (ha : a + 3 < L) (hI : INV (r + 1) ph) (K : ∀ ph2, INV r ph2 → PW l g (d + 41) m_L_law 23 [.retAddr 0, .ref 0, .ref 1726, .ref 1814, .int (nI (a + 4)), px_u, px_u, px_u] [] ph2 Q) : PW l g (d + 41) m_L_law 961 [.retAddr 0, .ref 0, .ref 1726, .ref 1814, .int (nI a), px_u, px_u, px_u] [] ph Q := by
  obtain ⟨sk, L0, own, τ, σ, fs, gs, ws, n, b, a0, Y, rfl, hk, hq, hC, hR, hm, hN⟩ := hI
  have hx := xo_some (c_o (τ := τ) (G0 hC.1))
  have hr : 8 * r ≤ 4096 := by omega
  refine law_23 (x := 0) (m := 1726) (o := 1814) (d := d + 40) hct hL ha ?_
  have hb := B_look (F := F) (x := (xs (a + 1))) (c := px_ct g) (k := 210 * r) (N := 4096 - 8 * r) hF hC hR (RMk_le hm (by omega)) (by omega)
  rcases OUT hk hq hC.1.1 hr (fun _ _ h => by rw [h]; decide) hb with ⟨v, ph1, e, ⟨f0, e0⟩, _, h2⟩ | ⟨ci, ph1, e, e1, e2, e3, ⟨f0, e0⟩, h2⟩
  · refine wr_look hx (((r_H_look (d := 0) e).mono (by omega)).post (fun r1 ph9 q => ?_))
    obtain ⟨rfl, q⟩ := q
    cases q
    obtain ⟨e4, hmf, w, ph2, σ', eM, hI2, e5, hmf2, hth, hP⟩ := h2 (vp_updL f0 0 v)
    refine Or.inl ⟨v, rfl, f0, e0, 0, rfl, hmf, ((r_M_look (d := 0) eM).mono (by omega)).post (fun r2 ph9 q => ?_)⟩
    obtain ⟨rfl, q⟩ := q
    cases q
    exact ⟨w, rfl, K _ hI2⟩
  · refine wr_look hx (((t_H_look (d := 0) hfl e e1 e2).mono (by omega)).post (fun r1 ph9 q => ?_))
    obtain ⟨q1, rfl⟩ := q
    refine Or.inr ⟨ph1.length, ci, q1, e3, ?_⟩
    obtain ⟨hmf, w, ph2, σ', eM, hI2, e5, hmf2, hth, hP⟩ := h2
    refine ⟨hP, nI 1, rfl, hmf, ((r_M_look (d := 0) eM).mono (by omega)).post (fun r2 ph9 q => ?_)⟩
    obtain ⟨rfl, q⟩ := q
    cases q
    exact ⟨w, rfl, K _ hI2⟩
end CASES
