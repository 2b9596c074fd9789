/-! p1: the law on at most four ints -/
theorem lw_018 {w : Int32} (h : ¬ (w < 0 ∨ nI 18 < w)) : ∃ j, j < 19 ∧ w = nI j := by
  have h0 : ¬ w < 0 := fun h1 => h (Or.inl h1)
  have h2 : ¬ nI 18 < w := fun h1 => h (Or.inr h1)
  obtain ⟨k, hk, rfl⟩ := nI_of h0
  rw [Int32.lt_iff_toInt_lt, nI_toInt hk, nI_toInt (show 18 < 2 ^ 31 by decide)] at h2
  exact ⟨k, by omega, rfl⟩
theorem lw_neg (i : Int32) : i < 0 ∨ 0 ≤ i := by
  by_cases h : i < 0
  · exact Or.inl h
  · exact Or.inr (Int32.not_lt.mp h)
section P1M
variable {l : Launch} {g : px_G} {d m o : Nat} {ph : px_H} {K : px_H → Prop} {fs mf : List Value}
theorem p1_feed {w : Int32} {v : Int64} {t b tb : Nat} {f f2 : Nat → Int32} {fo : Nat → Int64} {ov : Int32} (hfl : l.flags = flags0) (h0 : ph[0]? = some (.inr (0, fs))) (ht : fs[0]? = some (.ref t)) (hr : rw_at ph t b 8192 f (nI 0) ov) (hm : ph[m]? = some (.inr (12, mf))) (hl : 102 < mf.length) (hts : mf[2]? = some (.int (nI 0))) (htb : mf[1]? = some (.ref tb)) (hf2 : ph[tb]? = some (.inl (0, 8192, .inl f2))) (hne : tb ≠ b) (ho : ph[o]? = some (.inl (2, 1, .inr (.inl fo)))) (r1 : ph.length + 100 < pg_MC) (r2 : px_sum ph + 1000 < pg_MS) (kk : ∀ ph3, K ph3) :
    PW l g (d + 8) m_L_feed 0 [.ref 0, .int w, .long v, px_u, .ref o, px_u] [] ph (fun r ph1 => ∃ k : Int32, r = .inl (some (.int k)) ∧ (∃ mf, ph1[m]? = some (.inr (12, mf))) ∧ PW l g (d + 8) m_M_feed 0 [.ref m, .int w, .long v, px_u, px_u, px_u] [] ph1 (fun r ph2 => ∃ b : Int32, r = .inl (some (.int b)) ∧ (∃ mf, ph2[m]? = some (.inr (12, mf))) ∧ PW l g (d + 8) m_M_thrown 0 [.ref m] [] ph2 (fun r ph3 => r = .inl (some (.int k)) ∧ (∃ f, ph3[o]? = some (.inl (2, 1, .inr (.inl f))) ∧ (k = 0 → f 0 = b.toInt64)) ∧ K ph3))) := by
  have hl0 : Nat.blt 0 mf.length = true := Nat.ble_eq_true_of_le (by omega)
  by_cases hb : w < nI 1 ∨ nI 8 < w
  · refine wr_feed h0 ((s_feed_bad (d := d + 1) hfl hb (by omega) (by omega)).post (fun r ph1 q => Or.inr ?_))
    obtain ⟨rfl, rfl⟩ := q
    exact ⟨ph.length, 13, rfl, px_last9 _, Or.inl ⟨rfl, fr_int kk hm ho hl0 rfl (by decide) (s_M_feed_bad (px_app hm) hl0 hb)⟩⟩
  · obtain ⟨k, hk1, hk, rfl⟩ := lw_18 (fun h => hb (Or.inl h)) (Int32.not_lt.mp (fun h => hb (Or.inr h)))
    have hot : o ≠ t := by
      intro e
      subst e
      rw [hr.1] at ho
      cases ho
    have hob : o ≠ b := by
      intro e
      subst e
      rw [hr.2] at ho
      cases ho
    have hmt : m ≠ t := by
      intro e
      subst e
      rw [hr.1] at hm
      cases hm
    have hmb : m ≠ b := by
      intro e
      subst e
      rw [hr.2] at hm
      cases hm
    have hmo : m ≠ o := by
      intro e
      subst e
      rw [hm] at ho
      cases ho
    have htt : tb ≠ t := by
      intro e
      subst e
      rw [hr.1] at hf2
      cases hf2
    have hto : tb ≠ o := by
      intro e
      subst e
      rw [hf2] at ho
      cases ho
    have hmtb : m ≠ tb := by
      intro e
      subst e
      rw [hf2] at hm
      cases hm
    have hlo : o < ph.length := (List.getElem?_eq_some_iff.mp ho).1
    have hlm : m < ph.length := (List.getElem?_eq_some_iff.mp hm).1
    refine wr_feed h0 ((s_feed_good (d := d + 6) h0 ht hr hk1 hk (by omega)).post (fun r ph1 q => Or.inl ?_))
    obtain ⟨rfl, rfl⟩ := q
    refine ⟨nI (0 + k), rfl, fo, by rw [rw_w_ne hot hob]; exact ho, ?_⟩
    generalize hX : (rw_w ph t b 8192 (rw_puts 8192 v 0 k (f, 0, ov))).set o (.inl (2, 1, .inr (.inl (vp_updL fo 0 (nI (0 + k)).toInt64)))) = X
    have x1 : X[m]? = some (.inr (12, mf)) := by rw [← hX, List.getElem?_set_ne (Ne.symm hmo), rw_w_ne hmt hmb]; exact hm
    have x2 : X[tb]? = some (.inl (0, 8192, .inl f2)) := by rw [← hX, List.getElem?_set_ne (Ne.symm hto), rw_w_ne htt hne]; exact hf2
    have x3 : X[o]? = some (.inl (2, 1, .inr (.inl (vp_updL fo 0 (nI (0 + k)).toInt64)))) := by rw [← hX]; exact List.getElem?_set_self (by rw [rw_w_len]; exact hlo)
    have xl : X.length = ph.length := by rw [← hX, List.length_set, rw_w_len]
    refine ⟨0, rfl, ⟨mf, x1⟩, (s_M_feed_good (d := d + 7) (sz := 0) x1 (by omega) hts htb x2 hk1 hk (by omega)).post (fun r ph2 q => ?_)⟩
    obtain ⟨rfl, rfl⟩ := q
    have y1 : (mt_w X m tb (mf.set 0 (.int (nI 0))) (mt_puts v 0 k (f2, 0)))[m]? = some (.inr (12, (mf.set 0 (.int (nI 0))).set 2 (.int (nI (mt_puts v 0 k (f2, 0)).2)))) := List.getElem?_set_self (by rw [List.length_set, xl]; exact hlm)
    refine ⟨_, rfl, ⟨_, y1⟩, (s_thrown (t := 0) y1 (by rw [List.getElem?_set_ne (by decide)]; exact List.getElem?_set_self (by omega))).post (fun r ph3 q => ?_)⟩
    obtain ⟨rfl, rfl⟩ := q
    refine ⟨rfl, ⟨_, by unfold mt_w; rw [List.getElem?_set_ne hmo, List.getElem?_set_ne hto]; exact x3, fun _ => ?_⟩, kk _⟩
    unfold vp_updL
    rw [if_pos rfl]
set_option maxHeartbeats 4000000 in
set_option maxRecDepth 20000 in
theorem px_p1 (hfl : l.flags = flags0) : px_Law l 4 := by
  intro g L xs hL hgk hct
  obtain ⟨z, m, o, hz, h1⟩ := fz_of fk_t1
  simp only [Bool.and_eq_true] at h1
  obtain ⟨c0, c1, c2, c6, c9, c13, c14, c7, c19a, c19b, c5⟩ := h1
  have c23 := fz_at fk_t2 hz
  have c4 := fz_at fk_t3 hz
  have c8 := fz_at fk_t4 hz
  have c3a := fz_at fk_t5 hz
  have c3b := fz_at fk_t6 hz
  have hL2 : L ≤ 2048 := by omega
  refine law_new (d := 1259) hfl hgk hz (fun ph hR => ?_)
  have fin : ∀ ph3, PW l g (1299 + 1) m_L_law 23 [.retAddr 0, .ref 0, .ref m, .ref o, .int (nI (0 + 4)), px_u, px_u, px_u] [] ph3 (fun r _ => r = .inl (some (.int 1))) := fun ph3 => law_loop hct hL2 (by decide) (fun _ => rfl) (fun h => absurd h (by omega)) (fun h => absurd h (by omega))
  refine law_loop hct hL2 (by decide) (fun _ => rfl) (fun ha n hn _ => ?_) (fun ha => fin ph)
  obtain ⟨fs, mf, t, b, u, lk, me, tb, uf, lf, ef, f, f2, fo, ov, a, a2, ld, p0, p6, pt, pr, ⟨u1, u2, u3⟩, ⟨k1, k2, k3, k4⟩, ⟨e1, e2, e3⟩, q0, q2, q4, q5, ⟨q13, q13'⟩, q44, q50, q102, ⟨q1, q1', q1''⟩, qo, r1, r2⟩ := ff_of c0 hR
  have hl : 102 < mf.length := (List.getElem?_eq_some_iff.mp q102).1
  have hl0 : Nat.blt 0 mf.length = true := Nat.ble_eq_true_of_le (by omega)
  have rm : ph.length < pg_MC := by omega
  have rs : px_sum ph + 6 ≤ pg_MS := by omega
  match n, hn with
  | 0, _ => exact law_0 hct hL2 ha (p1_feed (d := 1291) hfl p0 pt pr q0 hl q2 q1 q1' q1'' qo r1 r2 fin)
  | 1, _ => exact law_1 hct hL2 ha (fk_w_ok hfl hgk (by decide) c1 hR rfl rfl fin)
  | 2, _ => exact law_2 hct hL2 ha (fk_w_ok hfl hgk (by decide) c2 hR rfl rfl fin)
  | 3, _ =>
    refine law_3 hct hL2 ha p0 ?_
    by_cases hx : xs (0 + 1) = 0
    · rw [show lw_zb (xs (0 + 1)) = nI 0 from if_pos hx]
      exact fk_d_ok hfl hgk (by decide) c3a hR rfl rfl fin
    · rw [show lw_zb (xs (0 + 1)) = nI 1 from if_neg hx]
      exact fk_d_ok hfl hgk (by decide) c3b hR rfl rfl fin
  | 4, _ => exact law_4 hct hL2 ha p0 (fk_d_ok hfl hgk (by decide) c4 hR rfl rfl fin)
  | 5, _ => exact law_5 hct hL2 ha (fk_g_ok (d := 1291) hfl hgk (by decide) c5 hR p0 fin)
  | 6, _ => exact law_6 hct hL2 ha (fk_w_ok hfl hgk (by decide) c6 hR rfl rfl fin)
  | 7, _ => exact law_7 hct hL2 ha p0 (fk_v_ok hfl hgk (by decide) c7 hR rfl rfl fin)
  | 8, _ => exact law_8 hct hL2 ha p0 (fk_d_ok hfl hgk (by decide) c8 hR rfl rfl fin)
  | 9, _ => exact law_9 hct hL2 ha (fk_w_ok hfl hgk (by decide) c9 hR rfl rfl fin)
  | 10, _ =>
    refine law_10 hct hL2 ha p0 ((s_near_none p0 e1 e2 e3).post (fun r ph1 q => ?_))
    obtain ⟨rfl, rfl⟩ := q
    exact ⟨-1, rfl, ⟨mf, q0⟩, (s_M_near_none q0 hl0 q102 q44).post (fun r ph2 q => ⟨q.1, fin _⟩)⟩
  | 11, _ =>
    refine law_11 hct hL2 ha (wr_list p0 ((s_list_none hfl p0 p6 (lw_neg _) rm rs).post (fun r ph1 q => Or.inr ?_)))
    obtain ⟨rfl, rfl⟩ := q
    exact ⟨ph.length, 15, rfl, px_last9 _, rfl, fr_int fin q0 qo hl0 rfl (by decide) (s_M_list_none (px_app q0) hl0 q5 (lw_neg _))⟩
  | 12, _ =>
    refine law_12 hct hL2 ha (wr_sum p0 ((s_sum_none hfl p0 p6 (lw_neg _) rm rs).post (fun r ph1 q => Or.inr ?_)))
    obtain ⟨rfl, rfl⟩ := q
    exact ⟨ph.length, 15, rfl, px_last9 _, rfl, fr_long fin q0 qo hl0 rfl (by decide) (s_M_sum_none (px_app q0) hl0 q5 (lw_neg _))⟩
  | 13, _ => exact law_13 hct hL2 ha (fk_w_ok hfl hgk (by decide) c13 hR rfl rfl fin)
  | 14, _ => exact law_14 hct hL2 ha (fk_wl_ok hfl hgk (by decide) c14 hR rfl rfl fin)
  | 15, _ =>
    refine law_15 hct hL2 ha (wr_taken p0 ((s_taken_none hfl p0 p6 (lw_neg _) rm rs).post (fun r ph1 q => Or.inr ?_)))
    obtain ⟨rfl, rfl⟩ := q
    exact ⟨ph.length, 15, rfl, px_last9 _, rfl, fr_bool fin q0 qo hl0 rfl (by decide) (s_M_taken_none (px_app q0) hl0 q5 (lw_neg _))⟩
  | 16, _ =>
    refine law_16 hct hL2 ha (wr_cause p0 ((s_cause_none hfl p0 p6 (lw_neg _) rm rs).post (fun r ph1 q => Or.inr ?_)))
    obtain ⟨rfl, rfl⟩ := q
    exact ⟨ph.length, 15, rfl, px_last9 _, rfl, fr_int fin q0 qo hl0 rfl (by decide) (s_M_cause_none (px_app q0) hl0 q5 (lw_neg _))⟩
  | 17, _ =>
    refine law_17 hct hL2 ha (wr_section p0 ((s_section_not hfl p0 k1 k2 k3 k4 rm rs).post (fun r ph1 q => Or.inr ?_)))
    obtain ⟨rfl, rfl⟩ := q
    exact ⟨ph.length, 14, rfl, px_last9 _, Or.inl ⟨rfl, fr_int fin q0 qo hl0 rfl (by decide) (s_M_section_not (px_app q0) hl0 q13 q50 q13')⟩⟩
  | 18, _ =>
    refine law_18 hct hL2 ha (wr_place p0 ((s_place_not hfl p0 k1 k2 k3 k4 rm rs).post (fun r ph1 q => Or.inr ?_)))
    obtain ⟨rfl, rfl⟩ := q
    exact ⟨ph.length, 14, rfl, px_last9 _, Or.inl ⟨rfl, fr_long fin q0 qo hl0 rfl (by decide) (s_M_place_not (px_app q0) hl0 q13 q50 q13')⟩⟩
  | 19, _ =>
    refine law_19 hct hL2 ha p0 ?_
    by_cases hx : xs (0 + 1) = 0
    · rw [show lw_zb (xs (0 + 1)) = nI 0 from if_pos hx]
      exact fk_d_ok hfl hgk (by decide) c19a hR rfl rfl fin
    · rw [show lw_zb (xs (0 + 1)) = nI 1 from if_neg hx]
      exact fk_d_ok hfl hgk (by decide) c19b hR rfl rfl fin
  | 20, _ =>
    refine law_20 hct hL2 ha p0 ((s_peek_none p0 e1 e2 e3).post (fun r ph1 q => ?_))
    obtain ⟨rfl, rfl⟩ := q
    exact ⟨_, rfl, ⟨mf, q0⟩, (s_M_peek_none q0 hl0 q102).post (fun r ph2 q => ⟨q.1, fin _⟩)⟩
  | 21, _ =>
    refine law_21 hct hL2 ha p0 ((s_flags_none p0 e1 e2 e3).post (fun r ph1 q => ?_))
    obtain ⟨rfl, rfl⟩ := q
    exact ⟨-1, rfl, ⟨mf, q0⟩, (s_M_flags_none q0 hl0 q102).post (fun r ph2 q => ⟨q.1, fin _⟩)⟩
  | 22, _ =>
    refine law_22 hct hL2 ha (wr_out p0 ((s_out_none hfl p0 u1 u2 u3 (lw_neg _) rm rs).post (fun r ph1 q => Or.inr ?_)))
    obtain ⟨rfl, rfl⟩ := q
    exact ⟨ph.length, 15, rfl, px_last9 _, rfl, fr_long fin q0 qo hl0 rfl (by decide) (s_M_out_none (px_app q0) hl0 q4 (lw_neg _))⟩
  | 23, _ =>
    refine law_23 hct hL2 ha ?_
    by_cases hw : xs (0 + 1) < 0 ∨ nI 18 < xs (0 + 1)
    · refine wr_look p0 ((s_look_none hfl hw rm rs).post (fun r ph1 q => Or.inr ?_))
      obtain ⟨rfl, rfl⟩ := q
      exact ⟨ph.length, 13, rfl, px_last9 _, rfl, fr_long fin q0 qo hl0 rfl (by decide) (s_M_look_none (px_app q0) hl0 hw)⟩
    · obtain ⟨j, hj, he⟩ := lw_018 hw
      rw [he]
      exact fk_wl_ok hfl hgk (by decide) (List.all_eq_true.mp c23 j (List.mem_range.mpr hj)) hR rfl rfl fin
  | n + 24, h => exact absurd h (by omega)
end P1M
