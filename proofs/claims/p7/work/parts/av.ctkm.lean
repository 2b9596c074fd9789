/-! takeMembers of the class -/
section CTM
variable {F : Nat} {c : px_CT} {sk : Nat → Nat × Nat × Nat} {L : Nat} {τ τ' : px_TT} {own : Nat → Nat × Nat} {fs : px_FS} {s : px_TK} {q o n k f : Nat} {b : Nat → Nat}
theorem le3_tk (dr : Nat → Bool) (t : Nat) (b : Nat → Nat) (k : Nat) (s : px_TS) (_ : yOK b k = true) (h : AL (fun x => x.2.1 ≤ 3) s.2.1) : AL (fun x => x.2.1 ≤ 3) (tk1 dr t b k s).2.1 := by
  rw [tk1_G]
  have h3 := sOf_3 (dr := dr) (t := t) (b := b) (k := k)
  have hE : AL (fun x => x.2.1 ≤ 3) (entL (yT b k) s.2.1) := AL_ent h (Nat.zero_le _)
  have h1 : ∀ i, AL (fun x => x.2.1 ≤ 3) (setR (entL (yT b k) s.2.1) i (fun r => (r.1, (r.2.1 || decide (yB b k = 1)), r.2.2))) := fun i => AL_setR (P := fun x => x.2.1 ≤ 3) hE (fun x hx => hE i x hx)
  have h2 : ∀ i, AL (fun x => x.2.1 ≤ 3) (setR (entL (yT b k) s.2.1) i (cmS (sOf dr t b k) t k (yZ b k) (yV b k))) := fun i => AL_setR (P := fun x => x.2.1 ≤ 3) hE (fun x hx => by
    have := hE i x hx
    show (cmS _ _ _ _ _ x.2).1 ≤ 3
    unfold cmS dfR cmR
    repeat (first | exact this | exact h3 | split))
  generalize sOf dr t b k = S at *
  generalize yT b k = Y at *
  generalize hg : cmS S t k (yZ b k) (yV b k) = g at *
  generalize hf : (fun r : px_NR => (r.1, (r.2.1 || decide (yB b k = 1)), r.2.2)) = f0 at *
  generalize yB b k = B at *
  unfold tkG
  by_cases c0 : B = 0
  · rw [if_pos c0]; exact h
  · rw [if_neg c0]
    by_cases c1 : s.1 = 1
    · rw [if_pos c1]; exact hE
    · rw [if_neg c1]
      have hc : AL (fun x => x.2.1 ≤ 3) (comG S Y f0 g (s.2.1, s.2.2.1)).2.1 := by
        unfold comG
        by_cases d1 : S = 0
        · rw [if_pos d1]; exact h1 _
        · rw [if_neg d1]
          split
          · exact hE
          · exact h2 _
      split
      · exact hc
      · exact hc
def TKs (sk : Nat → Nat × Nat × Nat) (L : Nat) (own : Nat → Nat × Nat) (τ : px_TT) (fs : px_FS) (k : Nat) (s : px_TK) : Prop := GS sk L ∧ GR τ ∧ CF sk L τ fs ∧ CK sk L own τ fs s ∧ WK fs s ∧ AL (fun x => x.2.1 ≤ 3) s.1.2.1 ∧ RMk sk L (k + rmT fs s.2.2.1) ∧ ((s.1.1 = 0 ∧ fN τ 147 13 = some 1696) ∨ (s.1.1 = 1 ∧ BL sk L τ))
theorem k_take1 (hF : 65536 < F) (h : TKs sk L own τ fs k s) (hs0 : s.1.1 = 0) (hq : obAt fs q = some (o, n, b, false)) (hnq : q ∉ s.2.2.1) : ∃ sk' L' τ' own', f_Link_takeObject F c 147 (some (10 + 2 * q)) (cH sk L τ) = some (bI (decide ((tkM b q s).1.1 ≠ 1)), cH sk' L' τ') ∧ EX sk L sk' L' ∧ TKs sk' L' own' τ' fs k (tkM b q s) ∧ frLn s.1.2.1.length τ τ' := by
  obtain ⟨h1, h2, h3, h4, h5, h6, h7, h8⟩ := h
  obtain ⟨h64, hkd, hcb, hss, hss2, hD⟩ := CF_ob h3 hq
  have he : eObj b n = 0 := by rw [← hcb]; exact (hD rfl).2.2
  have hbk := h5.1
  rw [rmT_tk hbk.2.2.2.2.2.1 (fun x hx => (hbk.2.2.2.2.2.2 x hx).1) h64 hnq hq, ← Nat.add_assoc] at h7
  obtain ⟨sk1, L1, τ1, own1, a1, a2, a3, a4, a5, a6⟩ := k_takeObject (F := F) (c := c) (k := k + rmT fs (s.2.2.1 ++ [q])) h1 hF h2 h3 h4 h5 h6 hs0 hq hnq h7
  have hT := BK_lt hbk h64 hnq
  have f1 := frLn_Tk a5 hT
  have h8 := h8.resolve_right (fun q => by rw [hs0] at q; exact absurd q.1 (by decide))
  refine ⟨sk1, L1, τ1, own1, a1, a2, ⟨GS_ex h1 a2, GR_Ln h2 f1, CF_mv h3 a2 (SF_Ln f1), a4, WK_tk h5 hq h64 hnq he, tkM_inv (P := fun s => AL (fun x => x.2.1 ≤ 3) s.2.1) le3_tk he h6, a3, ?_⟩, f1⟩
  exact a6.imp (fun q => ⟨q.1, q.2.trans h8.2⟩) id
/-- what CK speaks of has not changed -/
theorem CK_fx (h : CK sk L own τ fs s) (hT : s.2.2.1.length ≤ 64) (hI : ∀ a j, a ≠ 1695 → fI τ' a j = fI τ a j) (hJ : ∀ a j, a ≠ 1695 → fJ τ' a j = fJ τ a j) (hN : ∀ a j, fN τ' a j = fN τ a j) (hE : ∀ a, eN τ' a = eN τ a) : CK sk L own τ' fs s := by
  obtain ⟨k1, k2, ⟨k3, k4⟩, k5, k6, k7, k8⟩ := h
  refine ⟨NP_fx k1 (fun A _ => hE A), CLn_fx k2 k1 EX_refl (fun a j h => hI a j (by omega)) (fun a j _ => hJ a j (by omega)) (fun a j _ => hN a j) (hE 149) (hE 1693), ⟨(hI 147 14 (by decide)).trans k3, (hI 147 17 (by decide)).trans k4⟩, fun t q hq => ?_, fun q hq => CC2_fx (k6 q hq) (hI _ 15 (by omega)) (hI _ 16 (by omega)), k7, k8⟩
  obtain ⟨r1, r2, r3⟩ := k5 t q hq
  have ht := (List.getElem?_eq_some_iff.mp hq).1
  exact ⟨fun i hi => isPd_fr (r1 i hi) (fun j => hI _ j (by omega)), RSy_fx r2 (hE 149) (fun j _ => by rw [hE]), by rw [hE]; exact r3⟩
theorem TKs_N (h : TKs sk L own τ fs k s) (hs0 : s.1.1 = 0) (f1 : frN 1695 τ τ') : TKs sk L own τ' fs k s ∧ frLn s.1.2.1.length τ τ' := by
  obtain ⟨h1, h2, h3, h4, h5, h6, h7, h8⟩ := h
  have fl : frLn s.1.2.1.length τ τ' := by
    refine ⟨fun a j _ h _ _ _ _ => f1.1 a j (Or.inl h), fun a j _ h _ => f1.2.1 a j (Or.inl h), fun a j _ _ => f1.2.2.1 a j, f1.2.2.2.1, f1.2.2.2.2.1, fun a _ _ _ _ => f1.2.2.2.2.2 a, fun i _ => by rw [f1.2.2.2.2.2], fun B i p hB hp => ?_⟩
    have := (h4.1 B i p (by omega) hp).1
    exact ⟨fun j => f1.1 p j (Or.inl (by omega)), fun j => f1.2.1 p j (Or.inl (by omega)), fun j => f1.2.2.1 p j⟩
  refine ⟨⟨h1, GR_Ln h2 fl, CF_mv h3 EX_refl (SF_Ln fl), CK_fx h4 (BK_T h5.1) (fun a j h => f1.1 a j (Or.inl h)) (fun a j h => f1.2.1 a j (Or.inl h)) f1.2.2.1 f1.2.2.2.2.2, h5, h6, h7, ?_⟩, fl⟩
  rw [f1.2.2.1]
  exact h8.imp id (fun q => absurd (hs0.symm.trans q.1) (by decide))
/-- the cause of a member's taking -/
theorem CK_c {i j : Nat} (h : CK sk L own τ fs s) (hT : s.2.2.1.length ≤ 64) (hq : q < 64) (hb : obAt fs q = some (o, n, b, false)) (h1 : 1 ≤ j) (hj : j < oM b) (hB : yB b j ≠ 0) (hi : idx (yT b j) 0 (s.1.2.1.map Prod.fst) = some i) : CK sk L own (tI τ (10 + 2 * q) 16 (nI j)) fs (s.1, s.2.1, s.2.2.1, fun x => if x = q then some i else s.2.2.2 x) := by
  obtain ⟨k1, k2, ⟨k3, k4⟩, k5, k6, k7, k8⟩ := h
  have hI : ∀ a m, (¬ (10 ≤ a ∧ a < 138) ∨ m ≠ 16) → fI (tI τ (10 + 2 * q) 16 (nI j)) a m = fI τ a m := fun a m h => tI_ne (by omega)
  refine ⟨NP_fx k1 (fun A _ => rfl), CLn_fx k2 k1 EX_refl (fun a m h => hI a m (by omega)) (fun a m _ => rfl) (fun a m _ => rfl) rfl rfl, ⟨(hI 147 14 (Or.inl (by decide))).trans k3, (hI 147 17 (Or.inl (by decide))).trans k4⟩, fun t q' hq' => ?_, fun q' hq' => ⟨(hI _ 15 (Or.inr (by decide))).trans (k6 q' hq').1, ?_⟩, k7, k8⟩
  · obtain ⟨r1, r2, r3⟩ := k5 t q' hq'
    have ht := (List.getElem?_eq_some_iff.mp hq').1
    have ht : t < s.2.2.1.length := ht
    exact ⟨fun i hi => isPd_fr (r1 i hi) (fun m => hI _ m (Or.inl (by omega))), RSy_fx r2 rfl (fun m _ => rfl), r3⟩
  · by_cases e : q' = q
    · subst e
      refine ⟨fun w => ?_, fun i' w => ?_⟩
      · have w : (if q' = q' then some i else s.2.2.2 q') = none := w
        rw [if_pos rfl] at w
        cases w
      · have w : (if q' = q' then some i else s.2.2.2 q') = some i' := w
        rw [if_pos rfl] at w
        have w := Option.some.inj w
        subst w
        exact ⟨o, n, b, j, hb, h1, hj, hB, tI_at, hi⟩
    · have e16 : fI (tI τ (10 + 2 * q) 16 (nI j)) (10 + 2 * q') 16 = fI τ (10 + 2 * q') 16 := tI_ne (Or.inl (by omega))
      have hc := (k6 q' hq').2
      have ei : (if q' = q then some i else s.2.2.2 q') = s.2.2.2 q' := if_neg e
      refine ⟨fun w => ?_, fun i' w => ?_⟩
      · have w : (if q' = q then some i else s.2.2.2 q') = none := w
        rw [ei] at w
        exact e16.trans (hc.1 w)
      · have w : (if q' = q then some i else s.2.2.2 q') = some i' := w
        rw [ei] at w
        obtain ⟨o', n'', b', j', x1, x2, x3, x4, x5, x6⟩ := hc.2 i' w
        exact ⟨o', n'', b', j', x1, x2, x3, x4, e16.trans x5, x6⟩
theorem TKs_c {i j : Nat} (h : TKs sk L own τ fs k s) (hs0 : s.1.1 = 0) (hq : q < 64) (hb : obAt fs q = some (o, n, b, false)) (h1 : 1 ≤ j) (hj : j < oM b) (hB : yB b j ≠ 0) (hi : idx (yT b j) 0 (s.1.2.1.map Prod.fst) = some i) : TKs sk L own (tI τ (10 + 2 * q) 16 (nI j)) fs k (s.1, s.2.1, s.2.2.1, fun x => if x = q then some i else s.2.2.2 x) ∧ frLn s.1.2.1.length τ (tI τ (10 + 2 * q) 16 (nI j)) := by
  obtain ⟨h1', h2, h3, h4, h5, h6, h7, h8⟩ := h
  have fl : frLn s.1.2.1.length τ (tI τ (10 + 2 * q) 16 (nI j)) := frLn_I h4.1 ⟨by omega, by omega⟩
  refine ⟨⟨h1', GR_Ln h2 fl, CF_mv h3 EX_refl (SF_Ln fl), CK_c h4 (BK_T h5.1) hq hb h1 hj hB hi, h5, h6, h7, ?_⟩, fl⟩
  exact h8.imp id (fun q => absurd (hs0.symm.trans q.1) (by decide))
theorem fwJ_le (g : Nat → Option Nat) : ∀ (c k : Nat), fwJ g k c ≤ k + c := by
  intro c
  induction c with
  | zero => intro k; unfold fwJ; omega
  | succ c ih =>
    intro k
    rw [fwJ_s]
    split
    · omega
    · have := ih (k + 1)
      omega
theorem fwJ_at (g : Nat → Option Nat) : ∀ (c k i : Nat), hpf g k c = some i → g (fwJ g k c) = some i ∧ k ≤ fwJ g k c ∧ fwJ g k c < k + c := by
  intro c
  induction c with
  | zero => intro k i h; exact nomatch h
  | succ c ih =>
    intro k i h
    unfold hpf at h
    rw [fwJ_s]
    cases e : g k with
    | none =>
      rw [e] at h
      have h : hpf g (k + 1) c = some i := by cases c <;> exact h
      obtain ⟨a1, a2, a3⟩ := ih (k + 1) i h
      rw [if_neg (show ¬ (none : Option Nat).isSome = true by decide)]
      exact ⟨a1, by omega, by omega⟩
    | some j =>
      rw [e] at h
      have h : some j = some i := h
      rw [if_pos (show (some j).isSome = true from rfl)]
      exact ⟨e.trans h, Nat.le_refl _, by omega⟩
theorem hp1_at {xs : px_NL} {k i : Nat} (h : hp1 b xs k = some i) : yB b k ≠ 0 ∧ idx (yT b k) 0 (xs.map Prod.fst) = some i := by
  unfold hp1 at h
  by_cases c : yB b k = 0 ∨ yW b k = 0
  · rw [if_pos c] at h; cases h
  · rw [if_neg c] at h
    refine ⟨fun w => c (Or.inl w), ?_⟩
    generalize idx (yT b k) 0 (xs.map Prod.fst) = z at h ⊢
    cases z with
    | none => cases h
    | some x =>
      simp only at h
      cases e : xs[x]? with
      | none => rw [e] at h; cases h
      | some y =>
        rw [e] at h
        simp only at h
        split at h
        · exact h
        · cases h
theorem tks_len {dr : Nat → Bool} {t : Nat} : ∀ (d k : Nat) (s : px_TS), s.2.1.length ≤ (itr (tk1 dr t b) k d s).2.1.length := by
  intro d
  induction d with
  | zero => intro k s; exact Nat.le_refl _
  | succ d ih =>
    intro k s
    rw [itr_s]
    refine Nat.le_trans ?_ (ih (k + 1) _)
    have h := congrArg List.length (tk1_fst (dr := dr) (t := t) (b := b) (k := k) (s := s))
    unfold txs at h
    rw [List.length_map] at h
    rw [h]
    split
    · rw [List.length_map]; exact Nat.le_refl _
    · unfold ent
      split
      · rw [List.length_map]; exact Nat.le_refl _
      · rw [List.length_append, List.length_map]; omega
theorem tkM_len {s : px_TK} : s.1.2.1.length ≤ (tkM b q s).1.2.1.length := tks_len _ _ _
theorem tf1_stop {p : px_TK × Bool} (h : p.1.1.1 = 1) : tf1 fs f k p = p := by unfold tf1; rw [if_pos h]
theorem k_tm_19 {k4 : Nat → Int32 → Int32 → Int32 → px_H → Option (Int32 × px_H)} {rd kk : Nat} (hF : 65536 < F) (hf : f < 8) (hAr : ∀ x, fs[f]? = some x → isAr x.2 x.1 = true) : ∀ (d k g : Nat) (sk : Nat → Nat × Nat × Nat) (L : Nat) (τ : px_TT) (own : Nat → Nat × Nat) (p : px_TK × Bool), k + d = 8 → d < g → p.1.1.1 = 0 → TKs sk L own τ fs kk p.1 → ∃ sk' L' τ' own', f_Link_takeMembers_19 F c k4 g 147 (nI f) (bI p.2) (nI rd) (nI k) (cH sk L τ) = (if (itr (tf1 fs f) k d p).1.1.1 = 1 then some (nI 0, cH sk' L' τ') else f_Link_takeMembers_100 F c k4 147 (nI f) (bI (itr (tf1 fs f) k d p).2) (nI rd) (cH sk' L' τ')) ∧ EX sk L sk' L' ∧ TKs sk' L' own' τ' fs kk (itr (tf1 fs f) k d p).1 ∧ frLn p.1.1.2.1.length τ τ' ∧ p.1.1.2.1.length ≤ (itr (tf1 fs f) k d p).1.1.2.1.length := by
  intro d
  induction d with
  | zero =>
    intro k g sk L τ own p hk hg hp0 h
    obtain ⟨g, rfl⟩ : ∃ x, g = x + 1 := ⟨g - 1, by omega⟩
    refine ⟨sk, L, τ, own, ?_, EX_refl, h, frLn_refl, Nat.le_refl _⟩
    unfold f_Link_takeMembers_19
    rw [if_pos (nI_le (by omega) (by omega)), itr_0, if_neg (by rw [hp0]; decide)]
  | succ d ih =>
    intro k g sk L τ own p hk hg hp0 h
    obtain ⟨g, rfl⟩ : ∃ x, g = x + 1 := ⟨g - 1, by omega⟩
    obtain ⟨h1, h2, h3, h4, h5, h6, h7, h8⟩ := id h
    rw [itr_s]
    have o147 := G147 h1
    obtain ⟨Q, hQ⟩ : ∃ Q, Q = 8 * f + k := ⟨_, rfl⟩
    have hQ64 : Q < 64 := by omega
    have oq := G_of h1 hQ64
    have e9 := (h2.2.1 Q hQ64).2.2.1
    have next : ∀ (p1 : px_TK × Bool) sk1 L1 τ1 own1, p1 = tf1 fs f k p → p1.1.1.1 = 0 → EX sk L sk1 L1 → TKs sk1 L1 own1 τ1 fs kk p1.1 → frLn p.1.1.2.1.length τ τ1 → p.1.1.2.1.length ≤ p1.1.1.2.1.length → ∃ sk' L' τ' own', f_Link_takeMembers_94 F c k4 (f_Link_takeMembers_19 F c k4 g) 147 (nI f) (bI p1.2) (nI rd) (nI k) (cH sk1 L1 τ1) = (if (itr (tf1 fs f) (k + 1) d (tf1 fs f k p)).1.1.1 = 1 then some (nI 0, cH sk' L' τ') else f_Link_takeMembers_100 F c k4 147 (nI f) (bI (itr (tf1 fs f) (k + 1) d (tf1 fs f k p)).2) (nI rd) (cH sk' L' τ')) ∧ EX sk L sk' L' ∧ TKs sk' L' own' τ' fs kk (itr (tf1 fs f) (k + 1) d (tf1 fs f k p)).1 ∧ frLn p.1.1.2.1.length τ τ' ∧ p.1.1.2.1.length ≤ (itr (tf1 fs f) (k + 1) d (tf1 fs f k p)).1.1.2.1.length := fun p1 sk1 L1 τ1 own1 e1 e2 e3 e4 e5 e6 => by
      rw [← e1]
      obtain ⟨sk', L', τ', own', j1, j2, j3, j4, j5⟩ := ih (k + 1) g sk1 L1 τ1 own1 p1 (by omega) (by omega) e2 e4
      refine ⟨sk', L', τ', own', ?_, EX_trans e3 j2, j3, frLn_trans e5 j4 e6, Nat.le_trans e6 j5⟩
      unfold f_Link_takeMembers_94
      rw [nI_add]
      exact j1
    have skip : tf1 fs f k p = p → ∃ sk' L' τ' own', f_Link_takeMembers_66 F c k4 (f_Link_takeMembers_19 F c k4 g) 147 (nI f) (bI p.2) (nI rd) (nI k) (some (10 + 2 * Q)) (cH sk L τ) = (if (itr (tf1 fs f) (k + 1) d (tf1 fs f k p)).1.1.1 = 1 then some (nI 0, cH sk' L' τ') else f_Link_takeMembers_100 F c k4 147 (nI f) (bI (itr (tf1 fs f) (k + 1) d (tf1 fs f k p)).2) (nI rd) (cH sk' L' τ')) ∧ EX sk L sk' L' ∧ TKs sk' L' own' τ' fs kk (itr (tf1 fs f) (k + 1) d (tf1 fs f k p)).1 ∧ frLn p.1.1.2.1.length τ τ' ∧ p.1.1.2.1.length ≤ (itr (tf1 fs f) (k + 1) d (tf1 fs f k p)).1.1.2.1.length := fun e => by
      unfold f_Link_takeMembers_66 f_Link_takeMembers_67
      rw [if_pos (show nI 0 ≤ 0 by decide)]
      exact next p sk L τ own e.symm hp0 EX_refl h frLn_refl (Nat.le_refl _)
    unfold f_Link_takeMembers_19
    rw [if_neg (nI_ge (by omega) (by omega)), C3r0 o147 (GR_r (v := 9) h2 (by decide)), bs, pk_mul, nI_add, show f * 8 + k = Q by omega, c_aN (G9 h1) (by decide) (by decide) hQ64, bs, e9, bs, C7g4 oq, bs]
    cases ho : obAt fs Q with
    | none =>
      rw [CF_no h3 ho hQ64, if_neg (show ¬ nI 0 = nI 2 by decide)]
      exact skip (by unfold tf1; rw [if_neg (by omega), ← hQ, ho])
    | some y =>
      obtain ⟨o, n, b, z⟩ := y
      obtain ⟨_, ⟨x, hx, hkd⟩, hcb, hss, hss2, hD⟩ := CF_ob h3 ho
      rw [show Q / 8 = f by omega] at hx
      rw [hkd, hAr x hx]
      have et : tf1 fs f k p = if z = true ∨ Q ∈ p.1.2.2.1 then p else match hpf (hp1 b p.1.1.2.1) 1 (oM b - 1) with
        | none => p
        | some i => (tkM b Q (p.1.1, p.1.2.1, p.1.2.2.1, fun x => if x = Q then some i else p.1.2.2.2 x), true) := by
        unfold tf1
        rw [if_neg (by omega), ← hQ, ho]
        rfl
      cases z with
      | true =>
        rw [show mkd true true = 3 from rfl, if_neg (show ¬ nI 3 = nI 2 by decide)]
        exact skip (by rw [et, if_pos (Or.inl rfl)])
      | false =>
        rw [show mkd true false = 2 from rfl, if_pos rfl, C7g15 oq, bs, (h4.2.2.2.2.1 Q hQ64).1]
        by_cases ct : Q ∈ p.1.2.2.1
        · rw [decide_eq_true ct, if_neg (show ¬ bI true = 0 by decide)]
          exact skip (by rw [et, if_pos (Or.inr ct)])
        · rw [decide_eq_false ct, if_pos (show bI false = 0 from rfl)]
          rw [if_neg (fun q => q.elim (fun q => nomatch q) ct)] at et
          have hD := hD rfl
          have he : eObj b n = 0 := by rw [← hcb]; exact hD.2.2
          have hyo := (eObj_0 he).2.1
          have hB16 : ∀ j, yB (cb (eI τ 8) (bsO fs Q) n) j < 16 ∧ yW (cb (eI τ 8) (bsO fs Q) n) j < 65536 := fun j => ⟨by have := cb_lt (eI τ 8) (bsO fs Q) n (yP (cb (eI τ 8) (bsO fs Q) n) j + 4); unfold yB; omega, le_lt (fun x => cb_lt _ _ _ x) _ _⟩
          obtain ⟨τ1, a1, a2⟩ := k_firstWanted (F := F) (c := c) (q := 10 + 2 * Q) h1 (by omega) (by omega) hss hss2 h5.1.2.1 (by rw [hcb]; exact hyo) hB16 h2 h4.1 h4.2.1 hD.1 h3.2.2.2.1
          rw [hcb] at a1
          obtain ⟨t1, f1⟩ := TKs_N h hp0 a2
          rw [c_o o147, bs, a1, xb_mk]
          have hpos := fwJ_pos (hp1 b p.1.1.2.1) (oM b - 1) 1 (Nat.le_refl _)
          have hlt : fwJ (hp1 b p.1.1.2.1) 1 (oM b - 1) < 2 ^ 31 := by
            have h1 := fwJ_le (hp1 b p.1.1.2.1) (oM b - 1) 1
            have h2 : oM b ≤ 64 := by rw [← hcb]; exact w2_M hD.1.2.2
            omega
          obtain ⟨J, hJ⟩ : ∃ J, J = fwJ (hp1 b p.1.1.2.1) 1 (oM b - 1) := ⟨_, rfl⟩
          rw [← hJ] at hpos hlt ⊢
          unfold f_Link_takeMembers_67
          cases ei : hpf (hp1 b p.1.1.2.1) 1 (oM b - 1) with
          | none =>
            rw [ei] at hpos et
            have hJ0 : J = 0 := by
              rcases Nat.eq_zero_or_pos J with e | e
              · exact e
              · exact absurd (hpos.mp e) (by decide)
            rw [hJ0, if_pos (show nI 0 ≤ 0 by decide)]
            exact next p sk L τ1 own et.symm hp0 EX_refl t1 f1 (Nat.le_refl _)
          | some i =>
            rw [ei] at hpos et
            have hJ0 : 0 < J := hpos.mpr rfl
            obtain ⟨w1', w2', w3'⟩ := fwJ_at (hp1 b p.1.1.2.1) (oM b - 1) 1 i ei
            rw [← hJ] at w1' w2' w3'
            obtain ⟨w4', w5'⟩ := hp1_at w1'
            obtain ⟨t2, f2⟩ := TKs_c (i := i) (j := J) t1 hp0 hQ64 ho w2' (by omega) w4' w5'
            obtain ⟨τ2, hτ2⟩ : ∃ x, x = tI τ1 (10 + 2 * Q) 16 (nI J) := ⟨_, rfl⟩
            rw [← hτ2] at t2 f2
            have t3 : TKs sk L own τ2 fs kk (p.1.1, p.1.2.1, p.1.2.2.1, fun x => if x = Q then some i else p.1.2.2.2 x) := t2
            obtain ⟨sk3, L3, τ3, own3, b1, b2, b3, b4⟩ := k_take1 (F := F) (c := c) hF t3 hp0 ho ct
            rw [if_neg (show ¬ nI J ≤ 0 from nI_ge (a := 0) hJ0 hlt), bs, C7p16 oq, bs, ← hτ2, c_o (G147 h1), bs, b1, xb_mk]
            have hlen0 := tkM_len (b := b) (q := Q) (s := (p.1.1, p.1.2.1, p.1.2.2.1, fun x => if x = Q then some i else p.1.2.2.2 x))
            have et : tf1 fs f k p = (tkM b Q (p.1.1, p.1.2.1, p.1.2.2.1, fun x => if x = Q then some i else p.1.2.2.2 x), true) := et
            generalize tkM b Q (p.1.1, p.1.2.1, p.1.2.2.1, fun x => if x = Q then some i else p.1.2.2.2 x) = R at *
            have f3 : frLn p.1.1.2.1.length τ τ3 := frLn_trans f1 (frLn_trans f2 b4 (Nat.le_refl _)) (Nat.le_refl _)
            have hlen : p.1.1.2.1.length ≤ R.1.2.1.length := hlen0
            by_cases cR : R.1.1 = 1
            · rw [decide_eq_false (fun q => q cR), if_pos (show bI false = 0 from rfl)]
              have e2 : itr (tf1 fs f) (k + 1) d (tf1 fs f k p) = (R, true) := by
                rw [et]
                exact itr_id (fun j => tf1_stop cR) d (k + 1)
              rw [e2]
              refine ⟨sk3, L3, τ3, own3, ?_, b2, b3, f3, hlen⟩
              rw [if_pos cR]
              rfl
            · rw [decide_eq_true cR, if_neg (show ¬ bI true = 0 by decide)]
              have hR0 : R.1.1 = 0 := by
                rcases b3.2.2.2.2.2.2.2 with q | q
                · exact q.1
                · exact absurd q.1 cR
              exact next (R, true) sk3 L3 τ3 own3 et.symm hR0 b2 b3 f3 hlen
end CTM
