/-! keepReached of the class -/
section CKR
variable {F : Nat} {c : px_CT} {sk : Nat → Nat × Nat × Nat} {L : Nat} {τ : px_TT} {own : Nat → Nat × Nat} {fs : px_FS} {s : px_TK} {xs : px_NL} {st cn : Option Nat}
/-- the queue is worked off -/
theorem k_kr_88 (hF : 65536 < F) (hW : WP s.2.2.1.length (tB fs s.2.2.1) s.2.1.1 xs) : ∀ (d k f : Nat) (τ : px_TT) (u : px_CQ), k + d = 1536 → d < f → k ≤ u.2.2.length → RQs sk L own τ fs s xs u → SQ s.2.2.1.length (tB fs s.2.2.1) s.2.1.1 xs st cn u → (∀ m x, m < k → u.2.2[m]? = some x → Cl s.2.2.1.length (tB fs s.2.2.1) s.2.1.1 xs x u.1 u.2.1) → ∃ τ' u', f_Link_keepReached_88 F c f 147 (nI k) (cH sk L τ) = some ((), cH sk L τ') ∧ RQs sk L own τ' fs s xs u' ∧ SQ s.2.2.1.length (tB fs s.2.2.1) s.2.1.1 xs st cn u' ∧ leQ u u' ∧ (∀ x, u'.1 x = true → Cl s.2.2.1.length (tB fs s.2.2.1) s.2.1.1 xs x u'.1 u'.2.1) ∧ frKr τ τ' := by
  intro d
  induction d with
  | zero =>
    intro k f τ u hk hf hkl h hs hc
    obtain ⟨f, rfl⟩ : ∃ x, f = x + 1 := ⟨f - 1, by omega⟩
    have hT := BK_T (s := s) h.1.2.2.2.2.1.1
    have hl : u.2.2.length ≤ 1536 := nodup_le 0 1536 _ h.2.2.2.1 (fun z hz => by have := h.2.2.2.2.2 z hz; omega)
    refine ⟨τ, u, ?_, h, hs, leQ_refl, fun x hx => ?_, frKr_refl⟩
    · unfold f_Link_keepReached_88 f_Link_keepReached_130
      rw [C3g16 (G147 h.1.1), bs, h.2.1, if_pos (nI_le (by omega) (by omega))]
    · obtain ⟨m, hm⟩ := List.getElem?_of_mem ((h.2.2.2.2.1 x).mp hx)
      exact hc m x (by have := (List.getElem?_eq_some_iff.mp hm).1; omega) hm
  | succ d ih =>
    intro k f τ u hk hf hkl h hs hc
    obtain ⟨f, rfl⟩ : ∃ x, f = x + 1 := ⟨f - 1, by omega⟩
    have o147 := G147 h.1.1
    have hT := BK_T (s := s) h.1.2.2.2.2.1.1
    have hl : u.2.2.length ≤ 1536 := nodup_le 0 1536 _ h.2.2.2.1 (fun z hz => by have := h.2.2.2.2.2 z hz; omega)
    unfold f_Link_keepReached_88 f_Link_keepReached_130
    rw [C3g16 o147, bs, h.2.1]
    by_cases ck : u.2.2.length ≤ k
    · rw [if_pos (nI_le ck (by omega))]
      refine ⟨τ, u, rfl, h, hs, leQ_refl, fun x hx => ?_, frKr_refl⟩
      obtain ⟨m, hm⟩ := List.getElem?_of_mem ((h.2.2.2.2.1 x).mp hx)
      exact hc m x (by have := (List.getElem?_eq_some_iff.mp hm).1; omega) hm
    · have hkl : k < u.2.2.length := by omega
      have hx := List.getElem?_eq_getElem hkl
      generalize u.2.2[k] = x at hx
      have hmem : x ∈ u.2.2 := List.mem_of_getElem? hx
      have hxT := h.2.2.2.2.2 x hmem
      have e94 := h.2.2.1 k x hx
      have r10 := GR_r (a := 147) (k := 10) (v := 1694) h.1.2.1 (by decide)
      rw [if_neg (nI_ge hkl (by omega)), C3r10 o147 r10, bs, c_l (G1694 h.1.1) (by decide), bs, if_neg (nI_ge (by omega) (by omega)), bs, c_aN (G1694 h.1.1) (by decide) (by decide) (by omega), bs, e94]
      obtain ⟨τ1, b1, b2, b3⟩ := k_reachFrom (F := F) (c := c) hF hW hxT h
      obtain ⟨g1, g2⟩ := GQ_P (T := s.2.2.1.length) (tb := tB fs s.2.2.1) (dr := s.2.1.1) (xs := xs) (x := x) u
      obtain ⟨l, hl2⟩ := g1.2.2
      have hs1 := SQ_P (n := 0) hxT (fun t ht => Or.inr (by obtain ⟨q, _, _, _, _, he, _⟩ := TKe_ob h.1 ht; exact ⟨_, he⟩)) (hs.1 x ((h.2.2.2.2.1 x).mpr hmem)) hs
      have hlen : u.2.2.length ≤ (cP (tB fs s.2.2.1) s.2.1.1 xs x u).2.2.length := by rw [hl2, List.length_append]; omega
      obtain ⟨τ', u', j1, j2, j3, j4, j5, j6⟩ := ih (k + 1) f τ1 _ (by omega) (by omega) (by omega) b2 hs1 (fun m z hm hz => by
        rw [hl2, List.getElem?_append_left (by omega)] at hz
        by_cases cm : m = k
        · rw [cm, hx] at hz
          have hz : x = z := Option.some.inj hz
          rw [← hz]
          exact g2
        · exact Cl_mQ _ _ _ _ g1.1 g1.2.1 (hc m z (by omega) hz))
      refine ⟨τ', u', ?_, j2, j3, leQ_trans g1 j4, j5, frKr_trans b3 j6⟩
      show ((some 1694 : Option Nat).bind _) = _
      rw [bs, c_aN (G1694 h.1.1) (by decide) (by decide) (by omega), bs, e94, c_o o147, bs, b1, xb_mk]
      unfold f_Link_keepReached_124
      rw [nI_add]
      exact j1
/-- no part stays -/
theorem k_kr_2 (hF : 65536 < F) {rn : Nat → Bool} : ∀ (d k f : Nat) (τ : px_TT) (ST : Nat → Bool), k + d = 24 * s.2.2.1.length → d < f → (∀ x, x < k → ST x = false) → TKe sk L own τ fs s xs ST rn → ∃ τ' ST', f_Link_keepReached_2 F c f 147 (nI k) (cH sk L τ) = f_Link_keepReached_35 F c 147 (cH sk L τ') ∧ (∀ x, x < 24 * s.2.2.1.length → ST' x = false) ∧ TKe sk L own τ' fs s xs ST' rn ∧ frKr τ τ' := by
  intro d
  induction d with
  | zero =>
    intro k f τ ST hk hf hST h
    obtain ⟨f, rfl⟩ : ∃ x, f = x + 1 := ⟨f - 1, by omega⟩
    have hT := BK_T (s := s) h.2.2.2.2.1.1
    refine ⟨τ, ST, ?_, fun x hx => hST x (by omega), h, frKr_refl⟩
    unfold f_Link_keepReached_2
    rw [C3g14 (G147 h.1), bs, h.2.2.2.1.2.2.1, pk_mul, if_pos (nI_le (by omega) (by omega))]
  | succ d ih =>
    intro k f τ ST hk hf hST h
    obtain ⟨f, rfl⟩ : ∃ x, f = x + 1 := ⟨f - 1, by omega⟩
    have hT := BK_T (s := s) h.2.2.2.2.1.1
    have o147 := G147 h.1
    have hkT : k < 24 * s.2.2.1.length := by omega
    obtain ⟨p1, p2, p3, p4⟩ := TKe_part h hkT
    have f1 : frKr τ (tI τ (152 + k) 9 (bI false)) := ⟨fun a j _ q _ => tI_ne (by omega), fun a j q _ => tI_ne (Or.inl (by omega)), fun _ _ => rfl, fun _ _ => rfl, fun _ => rfl, fun _ => rfl, fun _ _ => rfl⟩
    have h1 : TKe sk L own (tI τ (152 + k) 9 (bI false)) fs s xs (fun x => if x = k then false else ST x) rn := TKe_Kr h f1 (fun x hx => by
      show _ = bI (if x = k then false else ST x)
      by_cases e : x = k
      · rw [if_pos e, e, tI_at]
      · rw [if_neg e, tI_ne (Or.inl (by omega))]
        exact (TKe_part h hx).2.1) (fun i y hy e2 => by
      have hge := (h.2.2.2.1.1 149 i _ (Or.inr (Or.inr rfl)) (CLm_at h.2.2.2.1.2.1 hy).2.1).1
      rw [tI_ne (Or.inl (by omega))]
      exact (h.2.2.2.1.2.1.2.1 i y hy).2 e2)
    obtain ⟨τ', ST', j1, j2, j3, j4⟩ := ih (k + 1) f _ _ (by omega) (by omega) (fun x hx => by
      show (if x = k then false else ST x) = false
      by_cases e : x = k
      · rw [if_pos e]
      · rw [if_neg e]; exact hST x (by omega)) h1
    refine ⟨τ', ST', ?_, j2, j3, frKr_trans f1 j4⟩
    unfold f_Link_keepReached_2
    rw [C3g14 o147, bs, h.2.2.2.1.2.2.1, pk_mul, if_neg (nI_ge (by omega) (by omega)), c_o o147, bs, pk_rem (by omega) (by decide) (by decide), pk_div (by omega) (by decide) (by decide), k_part h.1 h.2.1 (by omega) (by omega), xb_mk, bs, show 24 * (k / 24) + k % 24 = k by omega, show xpZ _ 8 9 (152 + k) (nI 0) = _ from C8z9 p1 false, bs, nI_add]
    exact j1
/-- the i-th definition -/
theorem k_definedAt {ST rn : Nat → Bool} {i d : Nat} (h : TKe sk L own τ fs s xs ST rn) (hd : s.1.2.2.1[i]? = some d) : f_Link_definedAt F c 147 (nI i) (cH sk L τ) = some (some (pN τ 149 d), cH sk L τ) := by
  have hS := h.1
  have o147 := G147 hS
  have hl := (List.getElem?_eq_some_iff.mp hd).1
  have hol := h.2.2.2.2.1.1.2.2.2.1
  have hT := BK_T (s := s) h.2.2.2.2.1.1
  obtain ⟨q1, q2⟩ := h.2.2.2.1.2.1.2.2.2 i d hd
  unfold f_Link_definedAt f_Link_definedAt_31 f_Link_definedAt_47
  rw [if_neg (show ¬ nI i < 0 from nI_nlt (b := 0) (Nat.zero_le _) (by omega)), C3g15 o147, bs, h.2.2.2.1.2.1.2.2.1, if_neg (nI_ge hl (by omega)), C3r9 o147 (GR_r (v := 1693) h.2.1 (by decide)), bs, c_l (G1693 hS) (by decide), bs, if_neg (nI_ge (by omega) (by omega)), bs, c_aN (G1693 hS) (by decide) (by decide) (by omega), bs, q2]
/-- no name stays -/
theorem k_kr_37 (hF : 65536 < F) {ST : Nat → Bool} : ∀ (d k f : Nat) (τ : px_TT) (rn : Nat → Bool), k + d = s.1.2.2.1.length → d < f → (∀ i n, i < k → s.1.2.2.1[i]? = some n → rn n = false) → TKe sk L own τ fs s xs ST rn → ∃ τ' rn', f_Link_keepReached_37 F c f 147 (nI k) (cH sk L τ) = f_Link_keepReached_60 F c 147 (cH sk L τ') ∧ (∀ n, n ∈ s.1.2.2.1 → rn' n = false) ∧ TKe sk L own τ' fs s xs ST rn' ∧ frKr τ τ' := by
  intro d
  induction d with
  | zero =>
    intro k f τ rn hk hf hrn h
    obtain ⟨f, rfl⟩ : ∃ x, f = x + 1 := ⟨f - 1, by omega⟩
    have hol := h.2.2.2.2.1.1.2.2.2.1
    have hT := BK_T (s := s) h.2.2.2.2.1.1
    refine ⟨τ, rn, ?_, fun n hn => ?_, h, frKr_refl⟩
    · unfold f_Link_keepReached_37
      rw [C3g15 (G147 h.1), bs, h.2.2.2.1.2.1.2.2.1, if_pos (nI_le (by omega) (by omega))]
    · obtain ⟨i, hi⟩ := List.getElem?_of_mem hn
      exact hrn i n (by have := (List.getElem?_eq_some_iff.mp hi).1; omega) hi
  | succ d ih =>
    intro k f τ rn hk hf hrn h
    obtain ⟨f, rfl⟩ : ∃ x, f = x + 1 := ⟨f - 1, by omega⟩
    have hol := h.2.2.2.2.1.1.2.2.2.1
    have hT := BK_T (s := s) h.2.2.2.2.1.1
    have o147 := G147 h.1
    have hkl : k < s.1.2.2.1.length := by omega
    have hd := List.getElem?_eq_getElem hkl
    generalize s.1.2.2.1[k] = D at hd
    obtain ⟨q1, q2⟩ := h.2.2.2.1.2.1.2.2.2 k D hd
    obtain ⟨z1, z2, z3, z4⟩ := CLm_at h.2.2.2.1.2.1 (List.getElem?_eq_getElem q1)
    have zq := (h.2.2.2.1.1 149 D _ (Or.inr (Or.inr rfl)) z2).1
    obtain ⟨p, hp⟩ : ∃ p, p = pN τ 149 D := ⟨_, rfl⟩
    have ka := k_definedAt (F := F) (c := c) h hd
    rw [← hp] at z2 z3 zq ka
    have f1 : frKr τ (tI τ p 13 (bI false)) := ⟨fun a j q _ _ => tI_ne (Or.inl (by omega)), fun a j _ q => tI_ne (Or.inr q), fun _ _ => rfl, fun _ _ => rfl, fun _ => rfl, fun _ => rfl, fun _ _ => rfl⟩
    have h1 : TKe sk L own (tI τ p 13 (bI false)) fs s xs ST (fun n => if n = D then false else rn n) := TKe_Kr h f1 (fun x hx => by
      rw [tI_ne (Or.inl (by omega))]
      exact (TKe_part h hx).2.1) (fun i y hy e2 => by
      obtain ⟨y1, y2, y3, y4⟩ := CLm_at h.2.2.2.1.2.1 hy
      show _ = bI (if i = D then false else rn i)
      by_cases e : i = D
      · rw [if_pos e, e, ← hp, tI_at]
      · have hne : pN τ 149 i ≠ p := NP_ne h.2.2.2.1.1 (Or.inr (Or.inr rfl)) (Or.inr (Or.inr rfl)) y2 z2 (fun q => e q.2)
        rw [if_neg e, tI_ne (Or.inl hne)]
        exact (h.2.2.2.1.2.1.2.1 i y hy).2 e2)
    obtain ⟨τ', rn', j1, j2, j3, j4⟩ := ih (k + 1) f _ _ (by omega) (by omega) (fun i n hi hn => by
      show (if n = D then false else rn n) = false
      by_cases e : n = D
      · rw [if_pos e]
      · rw [if_neg e]
        by_cases e2 : i = k
        · rw [e2, hd] at hn
          exact absurd (Option.some.inj hn).symm e
        · exact hrn i n (by omega) hn) h1
    refine ⟨τ', rn', ?_, j2, j3, frKr_trans f1 j4⟩
    unfold f_Link_keepReached_37
    rw [C3g15 o147, bs, h.2.2.2.1.2.1.2.2.1, if_neg (nI_ge hkl (by omega)), c_o o147, bs, ka, xb_mk, bs, show xpZ _ 5 13 p (nI 0) = _ from C5z13 z3 false, bs, nI_add]
    exact j1
theorem k_find2 {ST rn : Nat → Bool} {t : Nat} {w : List Nat} (h : TKe sk L own τ fs s xs ST rn) (hF : 4128 < F) (ht : ob sk L 5 t) (hw : isNm τ t w) (hok : okN w) : f_Names_find F c 148 (some t) (cH sk L τ) = some ((idx w 0 (xs.map Prod.fst)).map (pN τ 149), cH sk L τ) := by
  have hC := h.2.2.2.1.2.1
  have hl : (xs.map Prod.fst).length ≤ 4128 := hC.1.2.2.2.1
  exact k_find hC.1 ht hw hok (by omega)
theorem k_keepReached {ST rn : Nat → Bool} (hF : 65536 < F) (hW : WP s.2.2.1.length (tB fs s.2.2.1) s.2.1.1 xs) (h : TKe sk L own τ fs s xs ST rn) (hst : isNm τ 1696 wST) (hod : ∀ d, stN xs d = 2 → d ∈ s.1.2.2.1) (hs : (dfI wST xs).isSome = true) : ∃ τ' R rn', f_Link_keepReached F c 147 (cH sk L τ) = some ((), cH sk L τ') ∧ TKe sk L own τ' fs s xs R rn' ∧ RRo s.2.2.1.length (tB fs s.2.2.1) s.2.1.1 xs true R rn' ∧ frKr τ τ' := by
  have hT := BK_T (s := s) h.2.2.2.2.1.1
  have hol := h.2.2.2.2.1.1.2.2.2.1
  obtain ⟨τ1, ST1, a1, a2, a3, a4⟩ := k_kr_2 (F := F) (c := c) (rn := rn) hF _ 0 F τ ST (Nat.zero_add _) (by omega) (fun x hx => by omega) h
  obtain ⟨τ2, rn2, b1, b2, b3, b4⟩ := k_kr_37 (F := F) (c := c) (ST := ST1) hF _ 0 F τ1 rn (Nat.zero_add _) (by omega) (fun i n hi => by omega) a3
  have o147 := G147 h.1
  obtain ⟨τ3, hτ3⟩ : ∃ x, x = tI τ2 147 16 (nI 0) := ⟨_, rfl⟩
  have f3 : frKr τ2 τ3 := by
    rw [hτ3]
    exact ⟨fun a j _ _ q => tI_ne (by omega), fun a j q _ => tI_ne (Or.inl (by omega)), fun _ _ => rfl, fun _ _ => rfl, fun _ => rfl, fun _ => rfl, fun _ _ => rfl⟩
  have h3 : TKe sk L own τ3 fs s xs (fun _ => false) (fun _ => false) := TKe_Kr b3 f3 (fun x hx => by
    rw [hτ3, tI_ne (Or.inl (by omega)), (TKe_part b3 hx).2.1, a2 x hx]) (fun i y hy e2 => by
    have hge := (b3.2.2.2.1.1 149 i _ (Or.inr (Or.inr rfl)) (CLm_at b3.2.2.2.1.2.1 hy).2.1).1
    rw [hτ3, tI_ne (Or.inl (by omega)), (b3.2.2.2.1.2.1.2.1 i y hy).2 e2, b2 i (hod i (by rw [stN_at hy]; exact e2))])
  have q3 : RQs sk L own τ3 fs s xs (fun _ => false, fun _ => false, []) := ⟨h3, by rw [hτ3, tI_at]; rfl, (fun i x hx => by have hx : ([] : List Nat)[i]? = some x := hx; rw [List.getElem?_nil] at hx; cases hx), List.Pairwise.nil, (fun x => ⟨fun q => (nomatch q), fun q => (nomatch q)⟩), fun x q => nomatch q⟩
  obtain ⟨P, hP⟩ := Option.isSome_iff_exists.mp hs
  have hP1 : idx wST 0 (xs.map Prod.fst) = some P := by
    unfold dfI at hP
    cases e : idx wST 0 (xs.map Prod.fst) with
    | none => rw [e] at hP; cases hP
    | some i =>
      rw [e] at hP
      have hP : (if stN xs i = 0 then none else some i) = some P := hP
      split at hP
      · cases hP
      · rw [← Option.some.inj hP]
  have hPl : P < xs.length := by have := idx_lt hP1; rw [List.length_map] at this; omega
  have hx := List.getElem?_eq_getElem hPl
  generalize xs[P] = x at hx
  have ek := frKr_trans a4 (frKr_trans b4 f3)
  have hst3 : isNm τ3 1696 wST := ⟨(ek.2.2.1 _ _).trans hst.1, (ek.2.2.1 _ _).trans hst.2.1, (ek.2.2.1 _ _).trans hst.2.2.1, (ek.1 1696 3 (by decide) (by decide) (Or.inl (by decide))).trans hst.2.2.2⟩
  have kf := k_find2 (F := F) (c := c) h3 (by omega) (G1696 h.1) hst3 (show okN wST from ⟨by decide, by decide⟩)
  rw [hP1] at kf
  obtain ⟨τ4, c1, c2, c3⟩ := k_reachName (F := F) (c := c) q3 hW hx
  have eR : stR (tB fs s.2.2.1) s.2.1.1 xs = secN (tB fs s.2.2.1) s.2.1.1 x.2 := by
    unfold stR
    rw [hP]
    show secN _ _ (xs.getD P ([], nr0)).2 = _
    rw [List.getD_eq_getElem?_getD, hx]
    rfl
  have eC : stC xs = comN xs P := by unfold stC; rw [hP]
  rw [← eR, ← eC] at c2
  have s0 : SQ s.2.2.1.length (tB fs s.2.2.1) s.2.1.1 xs (stR (tB fs s.2.2.1) s.2.1.1 xs) (stC xs) (fun _ => false, fun _ => false, []) := ⟨fun x q => (nomatch q), fun x q => (nomatch q)⟩
  have s1 := SQ_s (x := stR (tB fs s.2.2.1) s.2.1.1 xs) (SQ_n (x := stC xs) s0 (fun y hy => Or.inl hy)) (fun y hy P p1 p2 => p1 y hy)
  obtain ⟨τ5, u5, d1, d2, d3, d4, d5, d6⟩ := k_kr_88 (F := F) (c := c) hF hW 1536 0 F τ4 _ rfl (by omega) (Nat.zero_le _) c2 s1 (fun m x hm => by omega)
  have l1 := cn1_le (u := ((fun _ => false, fun _ => false, []) : px_CQ)) (x := stC xs)
  have l2 := cs1_le (u := cn1 (stC xs) (fun _ => false, fun _ => false, [])) (x := stR (tB fs s.2.2.1) s.2.1.1 xs)
  have hob : ∀ t, t < s.2.2.1.length → ∃ m, eObj (tB fs s.2.2.1 t) m = 0 := fun t ht => by
    obtain ⟨q, _, _, _, _, he, _⟩ := TKe_ob h ht
    exact ⟨_, he⟩
  have fin := SQ_end (fun t ht => by obtain ⟨m, hm⟩ := hob t ht; exact (eObj_0 hm).1.1.2.1.1) hob (fun y hy => d4.1 y (l2.2 y hy)) (fun y hy => d4.2.1 y (l2.1.2.1 y (l1.2 y hy))) d3 d5
  refine ⟨τ5, u5.1, u5.2.1, ?_, d2.1, fun _ => fin, frKr_trans ek (frKr_trans c3 d6)⟩
  unfold f_Link_keepReached
  rw [a1]
  unfold f_Link_keepReached_35
  rw [b1]
  unfold f_Link_keepReached_60
  rw [C3p16 o147, bs, ← hτ3, C3r3 o147 (GR_r (v := 148) h3.2.1 (by decide)), bs, C3r12 o147 (GR_r (v := 1696) h3.2.1 (by decide)), bs, c_o (G148 h.1), bs, kf, xb_mk]
  show ((xo (cH sk L τ3) 3 147).bind _) = _
  rw [c_o o147, bs, c1, xb_mk]
  unfold f_Link_keepReached_86
  exact d1
end CKR
