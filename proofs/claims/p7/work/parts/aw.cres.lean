/-! takeMembers, and the taking in resolve, of the class -/
section CRS
variable {F : Nat} {c : px_CT} {fs : px_FS} {f kk : Nat}
theorem k_tm_4 (hF : 65536 < F) (hf : f < 8) (hAr : ∀ x, fs[f]? = some x → isAr x.2 x.1 = true) : ∀ (d rd g : Nat) (sk : Nat → Nat × Nat × Nat) (L : Nat) (τ : px_TT) (own : Nat → Nat × Nat) (s : px_TK), rd + d = 9 → d < g → s.1.1 = 0 → TKs sk L own τ fs kk s → ∃ sk' L' τ' own', f_Link_takeMembers_4 F c g 147 (nI f) (nI 1) (nI rd) (cH sk L τ) = some (bI (decide ((whl tfS (rdF fs f) d s).1.1 ≠ 1)), cH sk' L' τ') ∧ EX sk L sk' L' ∧ TKs sk' L' own' τ' fs kk (whl tfS (rdF fs f) d s) ∧ frLn s.1.2.1.length τ τ' ∧ s.1.2.1.length ≤ (whl tfS (rdF fs f) d s).1.2.1.length := by
  intro d
  induction d with
  | zero =>
    intro rd g sk L τ own s hr hg hs0 h
    obtain ⟨g, rfl⟩ : ∃ x, g = x + 1 := ⟨g - 1, by omega⟩
    refine ⟨sk, L, τ, own, ?_, EX_refl, h, frLn_refl, Nat.le_refl _⟩
    unfold f_Link_takeMembers_4 f_Link_takeMembers_106
    rw [if_neg (show ¬ nI 1 = 0 by decide), if_pos (nI_lt (by omega) (by omega))]
    show _ = some (bI (decide (s.1.1 ≠ 1)), _)
    rw [hs0]
    rfl
  | succ d ih =>
    intro rd g sk L τ own s hr hg hs0 h
    obtain ⟨g, rfl⟩ : ∃ x, g = x + 1 := ⟨g - 1, by omega⟩
    have hst : tfS s = false := decide_eq_false (by rw [hs0]; decide)
    rw [whl_s, if_neg (show ¬ tfS s = true by rw [hst]; decide)]
    unfold f_Link_takeMembers_4
    rw [if_neg (show ¬ nI 1 = 0 by decide), if_neg (nI_nlt (by omega) (by omega))]
    obtain ⟨sk1, L1, τ1, own1, a1, a2, a3, a4, a5⟩ := k_tm_19 (F := F) (c := c) (k4 := f_Link_takeMembers_4 F c g) (rd := rd) (kk := kk) hF hf hAr 8 0 F sk L τ own (s, false) rfl (by omega) hs0 h
    have a1 : f_Link_takeMembers_19 F c (f_Link_takeMembers_4 F c g) F 147 (nI f) (nI 0) (nI rd) (nI 0) (cH sk L τ) = _ := a1
    have eR : itr (tf1 fs f) 0 8 (s, false) = rdF fs f s := rfl
    rw [eR] at a1 a3 a5
    rw [a1]
    generalize rdF fs f s = R at *
    by_cases c1 : R.1.1.1 = 1
    · rw [if_pos c1]
      have e2 : (if R.2 = true then whl tfS (rdF fs f) d R.1 else R.1) = R.1 := by
        split
        · cases d with
          | zero => rfl
          | succ d => rw [whl_s, if_pos (show tfS R.1 = true from decide_eq_true c1)]
        · rfl
      rw [e2]
      refine ⟨sk1, L1, τ1, own1, ?_, a2, a3, a4, a5⟩
      rw [decide_eq_false (fun q => q c1)]
      rfl
    · rw [if_neg c1]
      have hR0 : R.1.1.1 = 0 := by
        rcases a3.2.2.2.2.2.2.2 with q | q
        · exact q.1
        · exact absurd q.1 c1
      unfold f_Link_takeMembers_100
      rw [nI_add]
      by_cases c2 : R.2 = true
      · rw [if_pos c2, c2]
        obtain ⟨sk2, L2, τ2, own2, b1, b2, b3, b4, b5⟩ := ih (rd + 1) g sk1 L1 τ1 own1 R.1 (by omega) (by omega) hR0 a3
        exact ⟨sk2, L2, τ2, own2, b1, EX_trans a2 b2, b3, frLn_trans a4 b4 a5, Nat.le_trans a5 b5⟩
      · rw [if_neg c2, Bool.eq_false_iff.mpr c2]
        refine ⟨sk1, L1, τ1, own1, ?_, a2, a3, a4, a5⟩
        obtain ⟨g, rfl⟩ : ∃ x, g = x + 1 := ⟨g - 1, by omega⟩
        unfold f_Link_takeMembers_4 f_Link_takeMembers_106
        rw [if_pos (show bI false = 0 from rfl), hR0]
        rfl
theorem tfL_none {s : px_TK} (h : fs[f]? = none) : tfL fs f 9 s = s := by
  have ho : ∀ k, k < 8 → obAt fs (8 * f + k) = none := fun k hk => by
    unfold obAt
    rw [show (8 * f + k) / 8 = f by omega, h]
  have e : rdF fs f s = (s, false) := by
    unfold rdF
    refine itr_idr 8 0 (fun j _ hj => ?_)
    unfold tf1
    split
    · rfl
    · rw [ho j (by omega)]
  unfold tfL
  rw [whl_s, e]
  split
  · rfl
  · rfl
/-- the taking of all files -/
theorem k_rs_6 {a1 : Int32} (hF : 65536 < F) : ∀ (d f g : Nat) (sk : Nat → Nat × Nat × Nat) (L : Nat) (τ : px_TT) (own : Nat → Nat × Nat) (s : px_TK), f + d = 8 → d < g → s.1.1 = 0 → qLs f s → TKs sk L own τ fs kk s → ∃ sk' L' τ' own', f_Link_resolve_6 F c g 147 a1 (nI f) (cH sk L τ) = (if (itr (ta1 fs) f d s).1.1 = 1 then some (nI 1, cH sk' L' τ') else f_Link_resolve_58 F c 147 a1 (cH sk' L' τ')) ∧ EX sk L sk' L' ∧ TKs sk' L' own' τ' fs kk (itr (ta1 fs) f d s) ∧ frLn s.1.2.1.length τ τ' := by
  intro d
  induction d with
  | zero =>
    intro f g sk L τ own s hf hg hs0 hq h
    obtain ⟨g, rfl⟩ : ∃ x, g = x + 1 := ⟨g - 1, by omega⟩
    refine ⟨sk, L, τ, own, ?_, EX_refl, h, frLn_refl⟩
    unfold f_Link_resolve_6
    rw [if_pos (nI_le (by omega) (by omega)), itr_0, if_neg (by rw [hs0]; decide)]
  | succ d ih =>
    intro f g sk L τ own s hf hg hs0 hq h
    obtain ⟨g, rfl⟩ : ∃ x, g = x + 1 := ⟨g - 1, by omega⟩
    obtain ⟨h1, h2, h3, h4, h5, h6, h7, h8⟩ := id h
    have hFSo : FSo fs := fun q o n b ho => by
      obtain ⟨x1, x2, x3, x4, x5, x6⟩ := CF_ob h3 ho
      exact ⟨x1, by rw [← x3]; exact (x6 rfl).2.2⟩
    have hta := WK_ta1 hFSo h5 hq
    rw [itr_s]
    have o147 := G147 h1
    have hQ64 : 8 * f < 64 := by omega
    have oq := G_of h1 hQ64
    have e9 := (h2.2.1 (8 * f) hQ64).2.2.1
    have go : ∀ (R : px_TK) sk1 L1 τ1 own1, R = ta1 fs f s → EX sk L sk1 L1 → TKs sk1 L1 own1 τ1 fs kk R → frLn s.1.2.1.length τ τ1 → s.1.2.1.length ≤ R.1.2.1.length → ∃ sk' L' τ' own', f_Link_resolve_43 F c (f_Link_resolve_6 F c g) 147 a1 (nI f) (bI (decide (R.1.1 ≠ 1))) (cH sk1 L1 τ1) = (if (itr (ta1 fs) (f + 1) d (ta1 fs f s)).1.1 = 1 then some (nI 1, cH sk' L' τ') else f_Link_resolve_58 F c 147 a1 (cH sk' L' τ')) ∧ EX sk L sk' L' ∧ TKs sk' L' own' τ' fs kk (itr (ta1 fs) (f + 1) d (ta1 fs f s)) ∧ frLn s.1.2.1.length τ τ' := fun R sk1 L1 τ1 own1 e1 e2 e3 e4 e5 => by
      rw [← e1] at hta ⊢
      unfold f_Link_resolve_43 f_Link_resolve_50
      by_cases cR : R.1.1 = 1
      · rw [decide_eq_false (fun q => q cR), if_pos (show bI false = 0 from rfl)]
        have e6 : itr (ta1 fs) (f + 1) d R = R := itr_id (fun j => by unfold ta1; rw [if_pos cR]) d (f + 1)
        rw [e6]
        exact ⟨sk1, L1, τ1, own1, (if_pos cR).symm, e2, e3, e4⟩
      · rw [decide_eq_true cR, if_neg (show ¬ bI true = 0 by decide), nI_add]
        have hR0 : R.1.1 = 0 := by
          rcases e3.2.2.2.2.2.2.2 with q | q
          · exact q.1
          · exact absurd q.1 cR
        obtain ⟨sk2, L2, τ2, own2, b1, b2, b3, b4⟩ := ih (f + 1) g sk1 L1 τ1 own1 R (by omega) (by omega) hR0 hta.2 e3
        exact ⟨sk2, L2, τ2, own2, b1, EX_trans e2 b2, b3, frLn_trans e4 b4 e5⟩
    have mem : ∀ (hAr : ∀ x, fs[f]? = some x → isAr x.2 x.1 = true), ta1 fs f s = tfL fs f 9 s → ∃ sk' L' τ' own', (xb (f_Link_takeMembers F c 147 (nI f) (cH sk L τ)) fun t5 ph6 => f_Link_resolve_43 F c (f_Link_resolve_6 F c g) 147 a1 (nI f) t5 ph6) = (if (itr (ta1 fs) (f + 1) d (ta1 fs f s)).1.1 = 1 then some (nI 1, cH sk' L' τ') else f_Link_resolve_58 F c 147 a1 (cH sk' L' τ')) ∧ EX sk L sk' L' ∧ TKs sk' L' own' τ' fs kk (itr (ta1 fs) (f + 1) d (ta1 fs f s)) ∧ frLn s.1.2.1.length τ τ' := fun hAr e => by
      obtain ⟨sk1, L1, τ1, own1, b1, b2, b3, b4, b5⟩ := k_tm_4 (F := F) (c := c) (kk := kk) hF (by omega) hAr 9 0 F sk L τ own s rfl (by omega) hs0 h
      have b1 : f_Link_takeMembers F c 147 (nI f) (cH sk L τ) = _ := b1
      rw [b1, xb_mk]
      exact go (tfL fs f 9 s) sk1 L1 τ1 own1 e.symm b2 b3 b4 b5
    unfold f_Link_resolve_6
    rw [if_neg (nI_ge (by omega) (by omega)), C3r0 o147 (GR_r (v := 9) h2 (by decide)), bs, pk_mul, show f * 8 = 8 * f by omega, c_aN (G9 h1) (by decide) (by decide) hQ64, bs, e9, bs, C7g4 oq, bs]
    cases hx : fs[f]? with
    | none =>
      have ho : obAt fs (8 * f) = none := by
        unfold obAt
        rw [show (8 * f) / 8 = f by omega, hx]
      rw [CF_no h3 ho hQ64, if_neg (show ¬ nI 0 = nI 1 by decide), c_o o147, bs]
      exact mem (fun x e => by rw [hx] at e; cases e) (by rw [tfL_none hx]; unfold ta1; rw [if_neg (by omega), hx])
    | some x =>
      by_cases ca : isAr x.2 x.1 = true
      · have hk1 : ¬ fI τ (10 + 2 * (8 * f)) 4 = nI 1 := by
          cases ho : obAt fs (8 * f) with
          | none => rw [CF_no h3 ho hQ64]; decide
          | some y =>
            obtain ⟨o, n, b, z⟩ := y
            obtain ⟨_, ⟨x', hx', hkd⟩, _⟩ := CF_ob h3 ho
            rw [show 8 * f / 8 = f by omega, hx] at hx'
            have hx' : x = x' := Option.some.inj hx'
            rw [hkd, ← hx', ca]
            cases z <;> decide
        rw [if_neg hk1, c_o o147, bs]
        exact mem (fun x' e => by rw [hx] at e; have e : x = x' := Option.some.inj e; rw [← e]; exact ca) (by unfold ta1; rw [if_neg (by omega), hx]; show (if isAr x.2 x.1 = true then _ else _) = _; rw [if_pos ca])
      · have ca : isAr x.2 x.1 = false := Bool.eq_false_iff.mpr ca
        have ho := obAt_8 hx ca
        obtain ⟨_, ⟨x', hx', hkd⟩, _⟩ := CF_ob h3 ho
        rw [show 8 * f / 8 = f by omega, hx] at hx'
        have hx' : x = x' := Option.some.inj hx'
        rw [hkd, ← hx', ca, show mkd false false = 1 from rfl, if_pos rfl, c_o o147, bs]
        have hnq : 8 * f ∉ s.2.2.1 := fun q => by have := hq _ q; omega
        obtain ⟨sk3, L3, τ3, own3, b1, b2, b3, b4⟩ := k_take1 (F := F) (c := c) hF h hs0 ho hnq
        rw [b1, xb_mk]
        exact go (tkM (sub x.2 0 x.1) (8 * f) s) sk3 L3 τ3 own3 (by unfold ta1; rw [if_neg (by omega), hx]; show _ = (if isAr x.2 x.1 = true then _ else _); rw [if_neg (by rw [ca]; decide)]) b2 b3 b4 tkM_len
end CRS
