theorem pg_xtall (mi : Nat) : (pg_xt mi).all (fun x => decide (x.2.2.2 = 13 ∨ x.2.2.2 = 15 ∨ x.2.2.2 = 38)) = true := by
  unfold pg_xt
  split
  · rfl
  · have h : ∀ L ∈ pg_xtl, L.all (fun x => decide (x.2.2.2 = 13 ∨ x.2.2.2 = 15 ∨ x.2.2.2 = 38)) = true := by decide
    rw [List.getD_eq_getElem?_getD]
    cases h2 : pg_xtl[mi - 382]? with
    | none => rfl
    | some L => exact h L (List.mem_of_getElem? h2)
theorem px_exc_ok {i3 r1 : Nat} (h : px_exc i3 = r1) (h13 : 13 ≤ r1) : ∃ E T9, pg_cl[r1]? = some (E, T9, 0) ∧ pg_in r1 = 6 ∧ (pr_at i3 E).all pr_ok = true ∧ Bundle.fit E = true := by
  unfold px_exc at h
  split at h
  · rename_i h1
    simp only [Nat.beq_eq] at h1
    subst h1; subst h
    exact ⟨_, _, pg_clb (by decide), rfl, pr_iae, by decide⟩
  · split at h
    · rename_i h1
      simp only [Nat.beq_eq] at h1
      subst h1; subst h
      exact ⟨_, _, pg_clb (by decide), rfl, pr_ise, by decide⟩
    · split at h
      · rename_i h1
        simp only [Nat.beq_eq] at h1
        subst h1; subst h
        exact ⟨_, _, pg_clb (by decide), rfl, pr_nse, by decide⟩
      · omega
theorem pg_zall : ∀ mi ∈ List.range 399, (match pg_L mi with
  | q :: _ => Nat.beq q.1 0
  | [] => true) = true := by decide +kernel
theorem pg_zero {mi : Nat} {q : Nat × Instr × Nat × Nat × Nat} {c : px_Cd} (h : pg_L mi = q :: c) : q.1 = 0 := by
  have hcd : pg_cd mi q.1 = some q.2 := pg_cdof (pre := []) h
  have h1 := pg_zall mi (List.mem_range.mpr (pg_lt hcd))
  rw [h] at h1
  simpa [Nat.beq_eq] using h1
theorem pg_objw : pg_okw 37 (.instanceMethod objectInit) = true ∧ True := ⟨by decide +kernel, trivial⟩
set_option maxRecDepth 100000 in
theorem pg_objc : pg_tb 38 = some (.code objectInit ⟨#[0xb1]⟩ 1 none) := by rfl
section PXSN
variable {l : Launch} {g : px_G}
theorem px_thr_ok {d mi pc nx r1 r2 i0 : Nat} {pre cs : px_Cd} {lv : px_L} {st : List Value} {z z' : px_Sz} {ph : px_H} {Q : px_Q} (hfl : l.flags = flags0) (hL : pg_L mi = pre ++ (pc, .new i0, nx, r1, r2) :: cs) (hp : pc + 3 = nx) (hd : 6 ≤ d) (h : px_thr mi pc r1 cs st z = some z') (hR : px_Rz z ph) (kk : ∀ ph', px_Rz z' ph' → Q (.inr z.2.1) ph') : PW l g d mi pc lv st ph Q := by
  subst hp
  unfold px_thr at h
  split at h
  · rename_i p1 q1 a1 a2 p2 i2 q2 r3 a3 p3 i3 q3 a4 a5 p4 q4 a6 a7 cs2
    split at h
    · rename_i hc
      simp only [Bool.and_eq_true, Nat.beq_eq] at hc
      obtain ⟨⟨⟨⟨⟨⟨⟨⟨⟨⟨⟨⟨⟨⟨⟨rfl, rfl⟩, rfl⟩, rfl⟩, rfl⟩, rfl⟩, rfl⟩, rfl⟩, hexc⟩, h13⟩, hoc⟩, hmi⟩, hz0⟩, htin⟩, hz6⟩, hsum⟩ := hc
      split at h
      · rename_i q hq
        split at h
        · rename_i hs
          simp only [Bool.and_eq_true, Nat.beq_eq, decide_eq_true_eq] at hs
          cases h
          obtain ⟨E, T9, e1, e2, e3, e4⟩ := px_exc_ok hexc (Nat.le_of_ble_eq_true h13)
          have c0 := pg_cdof hL
          have hL1 := hL.trans (List.append_cons _ _ _)
          have c1 := pg_cdof hL1
          have hL2 := hL1.trans (List.append_cons _ _ _)
          have c2 := pg_cdof hL2
          have hL3 := hL2.trans (List.append_cons _ _ _)
          have c3 := pg_cdof hL3
          have hL4 := hL3.trans (List.append_cons _ _ _)
          have c4 := pg_cdof hL4
          have hmi2 : mi < 382 := Nat.le_of_ble_eq_true hmi
          have how : (pg_mn mi).cls = "LinkHouse" := by rw [pg_own mi (by omega), hoc]; rfl
          have h0 : 0 < z.2.2.1 := Nat.le_of_ble_eq_true hz0
          have h6 : 6 ≤ z.2.2.2 := Nat.le_of_ble_eq_true hz6
          obtain ⟨d', rfl⟩ : ∃ d', d = d' + 6 := ⟨d - 6, by omega⟩
          have hr := hR
          obtain ⟨b1, b2, b3, b4⟩ := hR
          refine px_throw hfl c0 c1 c2 c3 c4 e1 e2 hq hs.1 hs.2 how (if_pos hmi2) e3 e4 (by omega) (by omega) hsum ?_
          rw [b2]
          exact kk _ (hr.push htin h0 h6 e2)
        · cases h
      · cases h
    · cases h
  · cases h
theorem px_ret_ok {d mi pc nx r1 r2 : Nat} {i : Instr} {lv : px_L} {v : Value} {ph : px_H} {Q : px_Q} (hcd : pg_cd mi pc = some (i, nx, r1, r2)) (h : px_isRet i (pg_rt mi) v = true) (hp : pc + 1 = nx) (hq : Q (.inl (some v)) ph) : PW l g d mi pc lv [v] ph Q := by
  unfold px_isRet at h
  split at h
  · rename_i hrt
    exact px_iret hcd (Or.inl hrt) hp hq
  · rename_i x hrt
    simp only [Bool.or_eq_true, beq_iff_eq] at h
    exact px_iret hcd (Or.inr ⟨hrt, h⟩) hp hq
  · rename_i hrt
    exact px_lret hcd hrt hp hq
  · rename_i n v2 hrt
    simp only [Nat.beq_eq] at h
    exact px_aret hcd hrt (Or.inl ⟨_, rfl⟩) h hp hq
  · rename_i n v2 hrt
    simp only [Nat.beq_eq] at h
    exact px_aret hcd hrt (Or.inr ⟨_, rfl⟩) h hp hq
  · cases h
theorem px_spec_ok {d mi pc nx r1 r2 idx : Nat} {lv : px_L} {st st' : List Value} {ph : px_H} {Q : px_Q} (hcd : pg_cd mi pc = some (.invokestatic idx, nx, r1, r2)) (h : px_spec r1 st = some st') (hs : Nat.ble (px_sumc (st'.drop 1)) 8 = true) (hp : pc + 3 = nx) (kk : PW l g (d + 1) mi nx lv st' ph Q) : PW l g (d + 1) mi pc lv st ph Q := by
  unfold px_spec at h
  split at h
  · split at h <;> cases h
    exact px_max hcd hs hp kk
  · split at h <;> cases h
    exact px_min hcd hs hp kk
  · split at h <;> cases h
    exact px_maxl hcd hs hp kk
  · split at h <;> cases h
    exact px_minl hcd hs hp kk
  · cases h
theorem px_acp_ok {d mi pc nx r2 idx : Nat} {lv : px_L} {st st' : List Value} {z z' : px_Sz} {ph : px_H} {Q : px_Q} (hcd : pg_cd mi pc = some (.invokestatic idx, nx, 9005, r2)) (h : px_acp st z = some (st', z')) (hR : px_Rz z ph) (hs : Nat.ble (px_sumc st') 8 = true) (hp : pc + 3 = nx) (kk : ∀ ph', px_Rz z' ph' → PW l g (d + 1) mi nx lv st' ph' Q) : PW l g (d + 1) mi pc lv st ph Q := by
  unfold px_acp at h
  split at h
  · split at h
    · rename_i h0 h1
      split at h
      · rename_i hc
        simp only [Bool.and_eq_true, decide_eq_true_eq, List.all_eq_true, List.mem_range] at hc
        obtain ⟨c1, c2, c3, c4, c5, c6⟩ := hc
        cases h
        have g0 := h0
        have g1 := h1
        rw [hR.1] at g0 g1
        exact px_copy hcd hs g0 g1 c1 c2 c3 (Nat.le_of_ble_eq_true c4) (Nat.le_of_ble_eq_true c5) c6 hp (kk _ (hR.set h1 rfl))
      · cases h
    · cases h
  · cases h
theorem px_str9_ok {d mi pc nx r1 r2 idx : Nat} {lv : px_L} {st st' : List Value} {ph : px_H} {Q : px_Q} (hcd : pg_cd mi pc = some (.invokevirtual idx, nx, r1, r2)) (h : px_str9 r1 st = some st') (hs : Nat.ble (px_sumc (st'.drop 1)) 8 = true) (hd : 5 ≤ d) (hp : pc + 3 = nx) (kk : PW l g d mi nx lv st' ph Q) : PW l g d mi pc lv st ph Q := by
  obtain ⟨d', rfl⟩ : ∃ d', d = d' + 5 := ⟨d - 5, by omega⟩
  unfold px_str9 at h
  split at h
  · split at h
    · rename_i j r
      split at h
      · rename_i hc
        simp only [Bool.and_eq_true] at hc
        have h1 : pg_nc ≤ j := Nat.le_of_ble_eq_true hc.1
        have h2 : 0 < (pg_kbl (j - pg_nc)).length := Nat.le_of_ble_eq_true hc.2
        cases h
        have e1 : j = pg_nc + (j - pg_nc) := by omega
        rw [e1]
        exact px_slen hcd h2 hs hp kk
      · cases h
    · cases h
  · split at h
    · rename_i x j r
      split at h
      · rename_i hc
        simp only [Bool.and_eq_true, decide_eq_true_eq] at hc
        have h1 : pg_nc ≤ j := Nat.le_of_ble_eq_true hc.1.1
        have h2 : x.toNatClampNeg < (pg_kbl (j - pg_nc)).length := Nat.le_of_ble_eq_true hc.1.2.2
        have h3 : (pg_kbl (j - pg_nc)).length < 2147483648 := Nat.le_of_ble_eq_true hc.2
        cases h
        have e1 : j = pg_nc + (j - pg_nc) := by omega
        obtain ⟨k, hk, rfl⟩ := nI_of hc.1.2.1
        rw [nI_clamp hk] at h2 kk
        rw [e1]
        exact px_schar hcd h2 h3 hs hp kk
      · cases h
    · cases h
  · cases h
theorem px_mk1 {mi pc : Nat} : px_mk mi pc = 1 → mi = m_Link_init ∧ pc = 46 := by
  unfold px_mk
  split
  · rename_i h
    intro _
    simp only [Bool.and_eq_true, Nat.beq_eq] at h
    exact h
  · split
    · intro h; exact absurd h (by decide)
    · intro h; exact absurd h (by decide)
theorem px_mk2 {mi pc : Nat} : px_mk mi pc = 2 → mi = m_M_link ∧ pc = 72 := by
  unfold px_mk
  split
  · intro h; exact absurd h (by decide)
  · split
    · rename_i h
      intro _
      simp only [Bool.and_eq_true, Nat.beq_eq] at h
      exact h
    · intro h; exact absurd h (by decide)
theorem px_Part_init {k p : Nat} {ph : px_H} : PW l g (k + 1) m_Part_init 0 [.ref p] [] ph (fun r ph' => r = .inl none ∧ ph' = ph) := by
  have hcd : pg_cd m_Part_init 1 = some (.invokespecial 1, 4, 9006, 0) := rfl
  refine px_ld rfl rfl rfl rfl rfl ?_
  refine px_obj hcd (pg_spc (Or.inr (Or.inl hcd)) (by decide) (by decide)) (pg_okw_in pg_objw.1) (pg_at pg_objc rfl) rfl rfl ?_
  exact px_vret rfl rfl rfl ⟨rfl, rfl⟩
theorem px_mac1_ok {k pc' : Nat} {lv lv' : px_L} {z z' : px_Sz} {ph : px_H} {Q : px_Q} (h : px_mac1 lv z = some (pc', lv', z')) (hR : px_Rz z ph) (kk : ∀ ph', px_Rz z' ph' → PW l g (k + 2) m_Link_init pc' lv' [] ph' Q) : PW l g (k + 2) m_Link_init 46 lv [] ph Q := by
  unfold px_mac1 at h
  split at h
  · rename_i a v1 v2 v3 v4 x
    split at h
    · rename_i fs ha
      split at h
      · rename_i b hb
        rw [px_ix_eq] at hb
        split at h
        · rename_i n f hbb
          have ha' : ph[a]? = some (.inr (3, fs)) := by rw [← hR.1]; exact ha
          have hb' : ph[b]? = some (.inl (6, n, .inr (.inr (.inr (.inr f))))) := by rw [← hR.1]; exact hbb
          refine px_ld rfl rfl rfl rfl rfl ?_
          refine px_ld rfl rfl rfl rfl rfl ?_
          refine px_get rfl ha' hb rfl ?_
          refine px_alen rfl hb' rfl rfl ?_
          refine px_icge rfl rfl rfl (fun h1 => ?_) (fun h1 => ?_)
          · split at h
            · cases h
              exact kk ph hR
            · rename_i h2
              simp only [decide_eq_true_eq] at h2
              exact absurd h1 h2
          · split at h
            · rename_i h2
              simp only [decide_eq_true_eq] at h2
              exact absurd h2 h1
            · split at h
              · rename_i hc
                simp only [Bool.and_eq_true] at hc
                obtain ⟨c1, c2, c3, c4⟩ := hc
                have hin := px_inB_ok c1
                have h2 : 0 < z.2.2.1 := Nat.le_of_ble_eq_true c2
                have h4 : pg_in 8 ≤ z.2.2.2 := Nat.le_of_ble_eq_true c4
                cases h
                have hp := hR.push (e := .inr (8, px_nf 8 (pg_nf 8))) (n := pg_in 8) c3 h2 h4 rfl
                have hlt : b < ph.length := (List.getElem?_eq_some_iff.mp hb').1
                have he : (ph ++ [(.inr (8, px_nf 8 (pg_nf 8)) : px_PE)])[b]? = some (.inl (6, n, .inr (.inr (.inr (.inr f))))) := by rw [List.getElem?_append_left hlt]; exact hb'
                have hw : (ph ++ [(.inr (8, px_nf 8 (pg_nf 8)) : px_PE)])[ph.length]? = some (.inr (8, px_nf 8 (pg_nf 8))) := by simp
                have a2 := hR.2.1
                have a3 := hR.2.2.1
                have a4 := hR.2.2.2
                refine px_ld rfl rfl rfl rfl rfl ?_
                refine px_get rfl ha' hb rfl ?_
                refine px_ld rfl rfl rfl rfl rfl ?_
                refine px_new rfl (pg_clb (show 8 < 16 by decide)) (by omega) (by omega) rfl ?_
                refine px_alu rfl rfl rfl ?_
                refine px_callI (As := []) (a := ph.length) (st := [.ref ph.length, .int x, .ref b]) rfl rfl rfl rfl rfl rfl px_Part_init (fun _ _ q => nomatch q.1) rfl (fun r ph' q => ?_)
                obtain ⟨e1, rfl⟩ := q
                cases e1
                refine px_aast rfl he rfl hw (pg_clb (show 8 < 16 by decide)) hin rfl ?_
                refine px_iinc rfl rfl rfl rfl rfl rfl ?_
                refine px_goto rfl rfl rfl ?_
                rw [a2]
                exact kk _ (hp.set (a := b) (e0 := .inl (6, n, .inr (.inr (.inr (.inr f))))) (by rw [hp.1]; exact he) rfl)
              · cases h
        · cases h
      · cases h
    · cases h
  · cases h
theorem px_mac2_ok {k pc' : Nat} {lv lv' : px_L} {z z' : px_Sz} {ph : px_H} {Q : px_Q} (h : px_mac2 lv z = some (pc', lv', z')) (hR : px_Rz z ph) (kk : ∀ ph', px_Rz z' ph' → PW l g k m_M_link pc' lv' [] ph' Q) : PW l g k m_M_link 72 lv [] ph Q := by
  unfold px_mac2 at h
  split at h
  · rename_i a v1 x
    split at h
    · rename_i fs ha
      split at h
      · rename_i b hb
        rw [px_ix_eq] at hb
        split at h
        · rename_i n f hbb
          have ha' : ph[a]? = some (.inr (12, fs)) := by rw [← hR.1]; exact ha
          have hb' : ph[b]? = some (.inl (3, n, .inl f)) := by rw [← hR.1]; exact hbb
          refine px_ld rfl rfl rfl rfl rfl ?_
          refine px_alu rfl rfl rfl ?_
          refine px_icge rfl rfl rfl (fun h1 => ?_) (fun h1 => ?_)
          · split at h
            · cases h
              exact kk ph hR
            · rename_i h2
              simp only [decide_eq_true_eq] at h2
              exact absurd h1 h2
          · split at h
            · rename_i h2
              simp only [decide_eq_true_eq] at h2
              exact absurd h2 h1
            · split at h
              · rename_i hc
                have hin := px_inB_ok hc
                cases h
                refine px_ld rfl rfl rfl rfl rfl ?_
                refine px_get rfl ha' hb rfl ?_
                refine px_ld rfl rfl rfl rfl rfl ?_
                refine px_alu rfl rfl rfl ?_
                refine px_zast rfl hb' rfl hin rfl ?_
                refine px_iinc rfl rfl rfl rfl rfl rfl ?_
                refine px_goto rfl rfl rfl ?_
                exact kk _ (hR.set hbb rfl)
              · cases h
        · cases h
      · cases h
    · cases h
  · cases h
set_option maxHeartbeats 4000000 in
theorem px_sound (hfl : l.flags = flags0) (hgk : px_gk g) : ∀ (n k mi ml : Nat) (cs : px_Cd) (lv : px_L) (st : List Value) (z : px_Sz) (r : Option Value ⊕ Nat) (z' : px_Sz), px_ex n k mi ml cs lv st z = some (r, z') → ml = pg_ml mi → (∃ pre, pg_L mi = pre ++ cs) → ∀ ph, px_Rz z ph → ∀ q c, cs = q :: c → PW l g k mi q.1 lv st ph (fun o ph' => o = r ∧ px_Rz z' ph') := by
  intro n
  induction n with
  | zero => intro k mi ml cs lv st z r z' h; cases cs <;> simp [px_ex] at h
  | succ n ih =>
    intro k mi ml cs0 lv st z r z' h hml hpre ph hR q c hq
    subst hq
    obtain ⟨pc, i, nx, r1, r2⟩ := q
    obtain ⟨pre, hL⟩ := hpre
    have hcd : pg_cd mi pc = some (i, nx, r1, r2) := pg_cdof hL
    show PW l g k mi pc lv st ph _
    have go : ∀ {cs2 : px_Cd} {pc2 : Nat} {lv2 : px_L} {st2 : List Value} {z2 : px_Sz}, px_ex n k mi ml cs2 lv2 st2 z2 = some (r, z') → ((∃ pre, pg_L mi = pre ++ cs2) ∧ ∀ q c, cs2 = q :: c → q.1 = pc2) → ∀ ph2, px_Rz z2 ph2 → PW l g k mi pc2 lv2 st2 ph2 (fun o ph' => o = r ∧ px_Rz z' ph') := by
      intro cs2 pc2 lv2 st2 z2 h2 hs ph2 hR2
      obtain ⟨q2, c2, rfl⟩ := px_pos h2
      have h3 := ih k mi ml _ lv2 st2 z2 r z' h2 hml hs.1 ph2 hR2 q2 c2 rfl
      rw [hs.2 q2 c2 rfl] at h3
      exact h3
    have nxt : ∀ pc2, (∃ pre, pg_L mi = pre ++ px_nxt c pc2) ∧ ∀ q c2, px_nxt c pc2 = q :: c2 → q.1 = pc2 := fun pc2 => px_nxt_suf ⟨pre, hL⟩
    have sk : ∀ pc2, (∃ pre, pg_L mi = pre ++ px_seek pc2 (pg_L mi)) ∧ ∀ q c2, px_seek pc2 (pg_L mi) = q :: c2 → q.1 = pc2 := fun pc2 => px_seek_suf pc2 (pg_L mi)
    unfold px_ex at h
    split at h
    · rename_i j pc2 lv2 st2 z2 h1
      refine px_one_ok hgk hml hcd h1 hR (fun ph2 hR2 => go h ?_ ph2 hR2)
      cases j
      · exact nxt pc2
      · exact sk pc2
    · unfold px_sy at h
      split at h
      · rename_i hmk
        obtain ⟨rfl, rfl⟩ := px_mk1 hmk
        split at h
        · split at h
          · rename_i pc2 lv2 z2 hm
            exact px_mac1_ok hm hR (fun ph2 hR2 => go h (sk pc2) ph2 hR2)
          · cases h
        · cases h
      · rename_i hmk
        obtain ⟨rfl, rfl⟩ := px_mk2 hmk
        split at h
        · split at h
          · rename_i pc2 lv2 z2 hm
            exact px_mac2_ok hm hR (fun ph2 hR2 => go h (sk pc2) ph2 hR2)
          · cases h
        · cases h
      unfold px_sx at h
      split at h
      · split at h
        · split at h
          · rename_i hc
            simp only [Bool.and_eq_true, Nat.beq_eq] at hc
            cases h
            exact px_ret_ok hcd hc.1 hc.2 ⟨rfl, hR⟩
          · cases h
        · cases h
      · split at h
        · split at h
          · rename_i hc
            simp only [Bool.and_eq_true, Nat.beq_eq] at hc
            cases h
            exact px_ret_ok hcd hc.1 hc.2 ⟨rfl, hR⟩
          · cases h
        · cases h
      · split at h
        · split at h
          · rename_i hc
            simp only [Bool.and_eq_true, Nat.beq_eq] at hc
            cases h
            exact px_ret_ok hcd hc.1 hc.2 ⟨rfl, hR⟩
          · cases h
        · cases h
      · split at h
        · rename_i hrt
          split at h
          · rename_i hc
            simp only [Nat.beq_eq] at hc
            cases h
            exact px_vret hcd (by assumption) hc ⟨rfl, hR⟩
          · cases h
        · cases h
      · split at h
        · cases h
        · rename_i idx h9 k1 k2
          split at h
          · rename_i hp
            simp only [Nat.beq_eq] at hp
            split at h
            · rename_i hr1
              dsimp only at h
              split at h
              · rename_i hc
                simp only [Bool.and_eq_true, Nat.beq_eq] at hc
                split at h
                · rename_i rv z2 hcall
                  obtain ⟨q2, c2, hq2⟩ := px_pos hcall
                  have hcal := ih k2 r1 _ _ _ _ z _ z2 hcall rfl ⟨[], rfl⟩ ph hR q2 c2 hq2
                  have hq0 : q2.1 = 0 := pg_zero hq2
                  rw [hq0] at hcal
                  have hst : st = ((st.take (pg_np r1)).reverse).reverse ++ st.drop (pg_np r1) := (px_take st _).symm
                  simp only [Bool.or_eq_true, Bool.and_eq_true] at hr1
                  by_cases hlt : r1 < 382
                  · rw [hst]
                    exact px_callS hcd (Nat.ble_eq_true_of_le hlt) hc.1 hc.2.1 hc.2.2 rfl hcal (fun x ph' q => nomatch q.1) hp (fun r3 ph' q => by
                      obtain ⟨e1, e2⟩ := q
                      cases e1
                      exact go h (nxt nx) ph' e2)
                  · rcases hr1 with hr1 | hr1
                    · exact absurd (Nat.le_of_ble_eq_true hr1) hlt
                    · rw [hst]
                      exact px_callSW hcd (pg_wwall r1 (by omega) (Nat.le_of_ble_eq_true hr1.1)) hr1.2 hc.1 hc.2.1 hc.2.2 rfl hcal (fun x ph' q => nomatch q.1) hp (fun r3 ph' q => by
                        obtain ⟨e1, e2⟩ := q
                        cases e1
                        exact go h (nxt nx) ph' e2)
                · cases h
              · cases h
            · split at h
              · rename_i h9005
                simp only [Nat.beq_eq] at h9005
                subst h9005
                split at h
                · rename_i st2 z2 hac
                  split at h
                  · rename_i hs
                    exact px_acp_ok hcd hac hR hs hp (fun ph2 hR2 => go h (nxt nx) ph2 hR2)
                  · cases h
                · cases h
              · split at h
                · rename_i st2 hsp
                  split at h
                  · rename_i hs
                    exact px_spec_ok hcd hsp hs hp (go h (nxt nx) ph hR)
                  · cases h
                · cases h
          · cases h
      · split at h
        · rename_i z2 hth
          split at h
          · rename_i hc
            simp only [Bool.and_eq_true, Nat.beq_eq] at hc
            cases h
            exact px_thr_ok hfl hL hc.1 (Nat.le_of_ble_eq_true hc.2) hth hR (fun ph2 hR2 => ⟨rfl, hR2⟩)
          · cases h
        · cases h
      · split at h
        · cases h
        · rename_i idx h9 k1 k2
          split at h
          · split at h
            · rename_i st2 hs9
              split at h
              · rename_i hc
                simp only [Bool.and_eq_true, Nat.beq_eq] at hc
                exact px_str9_ok hcd hs9 hc.1.2 (Nat.le_of_ble_eq_true hc.2) hc.1.1 (go h (nxt nx) ph hR)
              · cases h
            · cases h
          · rename_i hlt
            simp only [Bool.not_eq_true', Bool.not_eq_false] at hlt
            split at h
            · rename_i hp
              simp only [Nat.beq_eq] at hp
              dsimp only at h
              split at h
              · rename_i a st2 hdr
                split at h
                · rename_i ci fs htg
                  split at h
                  · rename_i hc
                    simp only [Bool.and_eq_true, Nat.beq_eq] at hc
                    obtain ⟨c1, c2, c3, c4, c5⟩ := hc
                    have hci : ci < 16 := Nat.le_of_ble_eq_true c2
                    have hcn : (pg_mn r1).cls = pg_cn ci := by
                      have h7 : r1 < 382 := Nat.le_of_ble_eq_true hlt
                      rw [pg_own r1 (by omega), c1]
                    have hst : st = ((st.take (pg_np r1)).reverse).reverse ++ .ref a :: st2 := by rw [← hdr]; exact (px_take st _).symm
                    have hgt := htg
                    rw [hR.1] at hgt
                    split at h
                    · rename_i rv z2 hcall
                      obtain ⟨q2, c2', hq2⟩ := px_pos hcall
                      have hcal := ih k2 r1 _ _ _ _ z _ z2 hcall rfl ⟨[], rfl⟩ ph hR q2 c2' hq2
                      rw [pg_zero hq2] at hcal
                      rw [hst]
                      exact px_callV hcd hlt hgt (pg_clb hci) hcn c3 c4 c5 rfl hcal (fun x ph' q => nomatch q.1) hp (fun r3 ph' q => by
                        obtain ⟨e1, e2⟩ := q
                        cases e1
                        exact go h (nxt nx) ph' e2)
                    · rename_i x z2 hcall
                      split at h
                      · rename_i hlw
                        simp only [Bool.and_eq_true, Nat.beq_eq] at hlw
                        split at h
                        · rename_i ce htx
                          split at h
                          · rename_i hpc hhs
                            split at h
                            · rename_i h13
                              simp only [Bool.and_eq_true] at h13
                              have h14 : 13 ≤ ce := Nat.le_of_ble_eq_true h13.1
                              have h15 : ce < 16 := Nat.le_of_ble_eq_true h13.2
                              obtain ⟨q2, c2', hq2⟩ := px_pos hcall
                              have hcal := ih k2 r1 _ _ _ _ z _ z2 hcall rfl ⟨[], rfl⟩ ph hR q2 c2' hq2
                              rw [pg_zero hq2] at hcal
                              have hlaw : (pg_mn mi).cls = "LinkHouseLaw" := by rw [pg_own mi (pg_lt hcd), hlw.1]; rfl
                              rw [hst]
                              exact px_callT hcd hlt hlw.2 hlaw (pg_xtall mi) hgt (pg_clb hci) hcn c3 c4 c5 rfl hcal hp (fun r3 ph' q => nomatch q.1) (fun x3 ph' q => by
                                obtain ⟨e1, e2⟩ := q
                                cases e1
                                exact ⟨ce, hpc, by omega, by rw [← e2.1]; exact htx, hhs, go h (sk hpc) ph' e2⟩)
                            · cases h
                          · cases h
                        · cases h
                      · cases h
                    · cases h
                  · cases h
                · cases h
              · cases h
            · cases h
      · split at h
        · cases h
        · rename_i h9 k1 k2
          split at h
          · rename_i hp
            simp only [Nat.beq_eq] at hp
            split at h
            · rename_i h9006
              simp only [Nat.beq_eq] at h9006
              subst h9006
              split at h
              · rename_i a st2
                split at h
                · rename_i hs
                  exact px_obj hcd (pg_spc (Or.inr (Or.inl hcd)) (by decide) (by decide)) (pg_okw_in pg_objw.1) (pg_at pg_objc rfl) hs hp (go h (nxt nx) ph hR)
                · cases h
              · cases h
            · split at h
              · rename_i hlt
                dsimp only at h
                split at h
                · rename_i a st2 hdr
                  split at h
                  · rename_i hc
                    simp only [Bool.and_eq_true, Nat.beq_eq] at hc
                    obtain ⟨c3, c4, c5⟩ := hc
                    have hst : st = ((st.take (pg_np r1)).reverse).reverse ++ .ref a :: st2 := by rw [← hdr]; exact (px_take st _).symm
                    split at h
                    · rename_i rv z2 hcall
                      obtain ⟨q2, c2', hq2⟩ := px_pos hcall
                      have hcal := ih k2 r1 _ _ _ _ z _ z2 hcall rfl ⟨[], rfl⟩ ph hR q2 c2' hq2
                      rw [pg_zero hq2] at hcal
                      rw [hst]
                      exact px_callI hcd hlt c3 c4 c5 rfl hcal (fun x ph' q => nomatch q.1) hp (fun r3 ph' q => by
                        obtain ⟨e1, e2⟩ := q
                        cases e1
                        exact go h (nxt nx) ph' e2)
                    · cases h
                  · cases h
                · cases h
              · cases h
          · cases h
      · cases h
end PXSN
