section
/-! what the class's queue reaches: pure -/
def mQ (Q : (Nat → Bool) → (Nat → Bool) → Prop) : Prop := ∀ R n R' n' : Nat → Bool, (∀ x, R x = true → R' x = true) → (∀ x, n x = true → n' x = true) → Q R n → Q R' n'
def leQ (u v : px_CQ) : Prop := (∀ x, u.1 x = true → v.1 x = true) ∧ (∀ x, u.2.1 x = true → v.2.1 x = true) ∧ ∃ l, v.2.2 = u.2.2 ++ l
theorem leQ_refl {u : px_CQ} : leQ u u := ⟨fun _ h => h, fun _ h => h, [], (List.append_nil _).symm⟩
theorem leQ_trans {u v w : px_CQ} (h : leQ u v) (g : leQ v w) : leQ u w := by
  obtain ⟨l, hl⟩ := h.2.2
  obtain ⟨m, hm⟩ := g.2.2
  exact ⟨fun x q => g.1 x (h.1 x q), fun x q => g.2.1 x (h.2.1 x q), l ++ m, by rw [hm, hl, List.append_assoc]⟩
def GQ (g : px_CQ → px_CQ) (Q : (Nat → Bool) → (Nat → Bool) → Prop) : Prop := ∀ u, leQ u (g u) ∧ Q (g u).1 (g u).2.1
theorem GQ_itr {g : Nat → px_CQ → px_CQ} {Q : Nat → (Nat → Bool) → (Nat → Bool) → Prop} {a e : Nat} (hg : ∀ i, a ≤ i → i < e → GQ (g i) (Q i)) (hQ : ∀ i, mQ (Q i)) : ∀ (c k : Nat), a ≤ k → k + c ≤ e → GQ (itr g k c) (fun R n => ∀ i, k ≤ i → i < k + c → Q i R n) := by
  intro c
  induction c with
  | zero => intro k _ _ u; exact ⟨leQ_refl, fun i h1 h2 => by omega⟩
  | succ c ih =>
    intro k h1 h2 u
    obtain ⟨a1, a2⟩ := hg k h1 (by omega) u
    obtain ⟨b1, b2⟩ := ih (k + 1) (by omega) (by omega) (g k u)
    rw [itr_s]
    refine ⟨leQ_trans a1 b1, fun i h3 h4 => ?_⟩
    by_cases e : i = k
    · rw [e]; exact hQ k _ _ _ _ b1.1 b1.2.1 a2
    · exact b2 i (by omega) (by omega)
section CQP
variable {T : Nat} {tb : Nat → Nat → Nat} {dr : Nat → Bool} {xs : px_NL} {st cn : Option Nat} {u : px_CQ}
theorem cs1_le {x : Option Nat} : leQ u (cs1 x u) ∧ ∀ y, x = some y → (cs1 x u).1 y = true := by
  unfold cs1
  cases x with
  | none => exact ⟨leQ_refl, fun y e => nomatch e⟩
  | some y =>
    show leQ u (if u.1 y = true then u else (bup u.1 y, u.2.1, u.2.2 ++ [y])) ∧ ∀ z, some y = some z → (if u.1 y = true then u else (bup u.1 y, u.2.1, u.2.2 ++ [y])).1 z = true
    by_cases c : u.1 y = true
    · rw [if_pos c]
      exact ⟨leQ_refl, fun z e => by cases e; exact c⟩
    · rw [if_neg c]
      exact ⟨⟨fun _ h => bup_m h, fun _ h => h, [y], rfl⟩, fun z e => by cases e; exact bup_e⟩
theorem cn1_le {x : Option Nat} : leQ u (cn1 x u) ∧ ∀ y, x = some y → (cn1 x u).2.1 y = true := by
  unfold cn1
  cases x with
  | none => exact ⟨leQ_refl, fun y e => nomatch e⟩
  | some y => exact ⟨⟨fun _ h => h, fun _ h => bup_m h, [], (List.append_nil _).symm⟩, fun z e => by cases e; exact bup_e⟩
theorem QJ_mQ {t i j : Nat} : mQ (QJ T tb dr xs t i j) := fun R n R' n' h1 h2 h hh => ⟨fun y hy => h1 y ((h hh).1 y hy), fun m hm => h2 m ((h hh).2 m hm)⟩
theorem GQ_J {t i j : Nat} : GQ (cJ tb dr xs t i j) (QJ T tb dr xs t i j) := fun u => by
  unfold cJ
  by_cases c : sH (tb t) i j = 0
  · rw [if_pos c]; exact ⟨leQ_refl, fun q => absurd c q⟩
  · rw [if_neg c]
    obtain ⟨a1, a2⟩ := cn1_le (u := u) (x := comY tb xs t (sY (tb t) i j))
    obtain ⟨b1, b2⟩ := cs1_le (u := cn1 (comY tb xs t (sY (tb t) i j)) u) (x := secY tb dr xs t (sY (tb t) i j))
    exact ⟨leQ_trans a1 b1, fun _ => ⟨b2, fun m hm => b1.2.1 m (a2 m hm)⟩⟩
/-- the sites of a part have been followed -/
def QW (T : Nat) (tb : Nat → Nat → Nat) (dr : Nat → Bool) (xs : px_NL) (t w i : Nat) (R n : Nat → Bool) : Prop := isS (tb t) i = true → oI (tb t) i = w → ∀ j, 0 ≤ j → j < 0 + sN (tb t) i → QJ T tb dr xs t i j R n
theorem QW_mQ {t w i : Nat} : mQ (QW T tb dr xs t w i) := fun R n R' n' h1 h2 h a b j c d => QJ_mQ _ _ _ _ h1 h2 (h a b j c d)
theorem GQ_I {t w i : Nat} : GQ (cI tb dr xs t w i) (QW T tb dr xs t w i) := fun u => by
  unfold cI
  by_cases c : isS (tb t) i = true ∧ oI (tb t) i = w
  · rw [if_pos c]
    obtain ⟨a1, a2⟩ := GQ_itr (g := cJ tb dr xs t i) (Q := QJ T tb dr xs t i) (a := 0) (e := sN (tb t) i) (fun j _ _ => GQ_J) (fun j => QJ_mQ) (sN (tb t) i) 0 (Nat.le_refl _) (by omega) u
    exact ⟨a1, fun _ _ => a2⟩
  · rw [if_neg c]
    exact ⟨leQ_refl, fun a b => absurd ⟨a, b⟩ c⟩
def Cl (T : Nat) (tb : Nat → Nat → Nat) (dr : Nat → Bool) (xs : px_NL) (x : Nat) (R n : Nat → Bool) : Prop := ∀ i, 0 ≤ i → i < 0 + oS (tb (x / 24)) → QW T tb dr xs (x / 24) (x % 24) i R n
theorem Cl_mQ {x : Nat} : mQ (Cl T tb dr xs x) := fun R n R' n' h1 h2 h i a b => QW_mQ _ _ _ _ h1 h2 (h i a b)
theorem GQ_P {x : Nat} : GQ (cP tb dr xs x) (Cl T tb dr xs x) := GQ_itr (g := cI tb dr xs (x / 24) (x % 24)) (Q := QW T tb dr xs (x / 24) (x % 24)) (a := 0) (e := oS (tb (x / 24))) (fun i _ _ => GQ_I) (fun i => QW_mQ) (oS (tb (x / 24))) 0 (Nat.le_refl _) (by omega)
/-- nothing is reached without a reason -/
def SQ (T : Nat) (tb : Nat → Nat → Nat) (dr : Nat → Bool) (xs : px_NL) (st cn : Option Nat) (u : px_CQ) : Prop := (∀ x, u.1 x = true → Rch T tb dr xs st x) ∧ ∀ n, u.2.1 n = true → RcN T tb dr xs st cn n
theorem SQ_s {x : Option Nat} (h : SQ T tb dr xs st cn u) (hx : ∀ y, x = some y → Rch T tb dr xs st y) : SQ T tb dr xs st cn (cs1 x u) := by
  unfold cs1
  cases x with
  | none => exact h
  | some y =>
    show SQ T tb dr xs st cn (if u.1 y = true then u else (bup u.1 y, u.2.1, u.2.2 ++ [y]))
    by_cases c : u.1 y = true
    · rw [if_pos c]; exact h
    · rw [if_neg c]
      refine ⟨fun z hz => ?_, h.2⟩
      have hz : bup u.1 y z = true := hz
      unfold bup at hz
      by_cases e : z = y
      · rw [e]; exact hx y rfl
      · rw [if_neg e] at hz; exact h.1 z hz
theorem SQ_n {x : Option Nat} (h : SQ T tb dr xs st cn u) (hx : ∀ y, x = some y → RcN T tb dr xs st cn y) : SQ T tb dr xs st cn (cn1 x u) := by
  unfold cn1
  cases x with
  | none => exact h
  | some y =>
    refine ⟨h.1, fun z hz => ?_⟩
    have hz : bup u.2.1 y z = true := hz
    unfold bup at hz
    by_cases e : z = y
    · rw [e]; exact hx y rfl
    · rw [if_neg e] at hz; exact h.2 z hz
theorem SQ_P {x n : Nat} (hx : x < 24 * T) (he : ∀ t, t < T → eObj (tb t) n = 0 ∨ ∃ m, eObj (tb t) m = 0) (hr : Rch T tb dr xs st x) (h : SQ T tb dr xs st cn u) : SQ T tb dr xs st cn (cP tb dr xs x u) := by
  have ht : x / 24 < T := by omega
  obtain ⟨m, hm⟩ : ∃ m, eObj (tb (x / 24)) m = 0 := (he _ ht).elim (fun q => ⟨n, q⟩) id
  unfold cP
  refine itr_inv (g := cI tb dr xs (x / 24) (x % 24)) (P := SQ T tb dr xs st cn) (a := 0) (e := oS (tb (x / 24))) (fun i u _ hi hu => ?_) _ 0 u (Nat.le_refl _) (by omega) h
  unfold cI
  by_cases c : isS (tb (x / 24)) i = true ∧ oI (tb (x / 24)) i = x % 24
  · rw [if_pos c]
    have h1 := isS_1 hm c.1
    refine itr_inv (g := cJ tb dr xs (x / 24) i) (P := SQ T tb dr xs st cn) (a := 0) (e := sN (tb (x / 24)) i) (fun j u _ hj hu => ?_) _ 0 u (Nat.le_refl _) (by omega) hu
    unfold cJ
    by_cases c1 : sH (tb (x / 24)) i j = 0
    · rw [if_pos c1]; exact hu
    · rw [if_neg c1]
      have ex : 24 * (x / 24) + oI (tb (x / 24)) i = x := by rw [c.2]; omega
      refine SQ_s (SQ_n hu (fun y hy => Or.inr ⟨x / 24, i, j, ht, ⟨h1, hi⟩, c.1, hj, c1, by rw [ex]; exact hr, hy⟩)) (fun y hy P p1 p2 => ?_)
      exact p2 (x / 24) i j ht h1 hi c.1 hj c1 (by rw [ex]; exact hr P p1 p2) y hy
  · rw [if_neg c]; exact hu
/-- the queue is empty: all that can be reached is -/
theorem SQ_end (hS : ∀ t, t < T → 1 ≤ oS (tb t)) (he : ∀ t, t < T → ∃ m, eObj (tb t) m = 0) (hst : ∀ y, st = some y → u.1 y = true) (hcn : ∀ y, cn = some y → u.2.1 y = true) (h : SQ T tb dr xs st cn u) (hc : ∀ x, u.1 x = true → Cl T tb dr xs x u.1 u.2.1) : (∀ x, u.1 x = true ↔ Rch T tb dr xs st x) ∧ ∀ n, u.2.1 n = true ↔ RcN T tb dr xs st cn n := by
  have hq : ∀ t, 0 ≤ t → t < 0 + T → QT T tb dr xs t u.1 u.2.1 := fun t _ ht i h1 hi hs hR j j1 j2 => by
    obtain ⟨m, hm⟩ := he t (by omega)
    have hoI := (eSit_0 hm h1 (by omega) hs).1
    have hS24 := (eObj_0 hm).1.1.2.1.2
    have := hc _ hR i (Nat.zero_le _)
    rw [show (24 * t + oI (tb t) i) / 24 = t by omega] at this
    have := this (by omega)
    unfold QW at this
    rw [show (24 * t + oI (tb t) i) % 24 = oI (tb t) i by omega] at this
    exact this hs rfl j j1 j2
  obtain ⟨a1, a2⟩ := Rch_of (R := u.1) (n := u.2.1) hS hst hcn hq
  exact ⟨fun x => ⟨h.1 x, a1 x⟩, fun n => ⟨h.2 n, a2 n⟩⟩
end CQP
end
section
/-! every definition stands in the order -/
def odT (s : px_TS) : Prop := ∀ d, (stN s.2.1 d = 1 ∨ stN s.2.1 d = 2 ∨ stN s.2.1 d = 3) → d ∈ s.2.2.1
theorem cmS_4 {s t k z v : Nat} {r : px_NR} (hs : s ≤ 3) (h : (cmS s t k z v r).1 = 1 ∨ (cmS s t k z v r).1 = 2 ∨ (cmS s t k z v r).1 = 3) : r.1 = 0 ∨ r.1 = 1 ∨ r.1 = 2 ∨ r.1 = 3 := by
  unfold cmS dfR cmR at h
  split at h
  · omega
  · split at h
    · exact Or.inr h
    · exact Or.inr h
theorem odT_tk (dr : Nat → Bool) (t : Nat) (b : Nat → Nat) (k : Nat) (s : px_TS) (_ : yOK b k = true) (h : odT s) : odT (tk1 dr t b k s) := by
  have hs3 := sOf_3 (dr := dr) (t := t) (b := b) (k := k)
  obtain ⟨r, p1, p2⟩ := plc_at (w := yT b k) (xs := s.2.1)
  have he : ∀ d, (stN (entL (yT b k) s.2.1) d = 1 ∨ stN (entL (yT b k) s.2.1) d = 2 ∨ stN (entL (yT b k) s.2.1) d = 3) → d ∈ s.2.2.1 := fun d hd => by rw [stN_ent] at hd; exact h d hd
  have hcm := cmS_4 (t := t) (k := k) (z := yZ b k) (v := yV b k) (r := r) hs3
  rw [tk1_G]
  generalize sOf dr t b k = S at *
  generalize hY : yT b k = Y at *
  generalize cmS S t k (yZ b k) (yV b k) = g at *
  generalize hf : (fun r : px_NR => (r.1, (r.2.1 || decide (yB b k = 1)), r.2.2)) = f0 at *
  have hf1 : ∀ r, (f0 r).1 = r.1 := fun r => by rw [← hf]
  generalize yB b k = B at *
  unfold tkG
  by_cases c0 : B = 0
  · rw [if_pos c0]; exact h
  · rw [if_neg c0]
    by_cases c1 : s.1 = 1
    · rw [if_pos c1]; exact he
    · rw [if_neg c1]
      have hsi : stN (entL Y s.2.1) (plc Y (s.2.1.map Prod.fst)) = r.1 := stN_at p1
      have hst : ((entL Y s.2.1).getD (plc Y (s.2.1.map Prod.fst)) ([], nr0)).2.1 = r.1 := by rw [List.getD_eq_getElem?_getD, p1]; rfl
      have hc : ∀ d, (stN (comG S Y f0 g (s.2.1, s.2.2.1)).2.1 d = 1 ∨ stN (comG S Y f0 g (s.2.1, s.2.2.1)).2.1 d = 2 ∨ stN (comG S Y f0 g (s.2.1, s.2.2.1)).2.1 d = 3) → d ∈ (comG S Y f0 g (s.2.1, s.2.2.1)).2.2 := by
        unfold comG
        by_cases d1 : S = 0
        · rw [if_pos d1]
          intro d hd
          have hd : stN (setR (entL Y s.2.1) (plc Y (s.2.1.map Prod.fst)) f0) d = 1 ∨ stN (setR (entL Y s.2.1) (plc Y (s.2.1.map Prod.fst)) f0) d = 2 ∨ stN (setR (entL Y s.2.1) (plc Y (s.2.1.map Prod.fst)) f0) d = 3 := hd
          show d ∈ s.2.2.1
          rw [stN_setR p1, hf1] at hd
          refine he d ?_
          by_cases e : d = plc Y (s.2.1.map Prod.fst)
          · rw [if_pos e] at hd; rw [e, hsi]; exact hd
          · rw [if_neg e] at hd; exact hd
        · rw [if_neg d1]
          split
          · exact he
          · intro d hd
            have hd : stN (setR (entL Y s.2.1) (plc Y (s.2.1.map Prod.fst)) g) d = 1 ∨ stN (setR (entL Y s.2.1) (plc Y (s.2.1.map Prod.fst)) g) d = 2 ∨ stN (setR (entL Y s.2.1) (plc Y (s.2.1.map Prod.fst)) g) d = 3 := hd
            show d ∈ (if ((entL Y s.2.1).getD (plc Y (s.2.1.map Prod.fst)) ([], nr0)).2.1 = 0 then s.2.2.1 ++ [plc Y (s.2.1.map Prod.fst)] else s.2.2.1)
            rw [stN_setR p1] at hd
            rw [hst]
            by_cases e : d = plc Y (s.2.1.map Prod.fst)
            · rw [if_pos e] at hd
              by_cases z : r.1 = 0
              · rw [if_pos z, e]; exact List.mem_append.mpr (Or.inr (List.mem_singleton.mpr rfl))
              · rw [if_neg z]
                refine he d ?_
                rw [e, hsi]
                exact (hcm hd).resolve_left z
            · rw [if_neg e] at hd
              have := he d hd
              split
              · exact List.mem_append.mpr (Or.inl this)
              · exact this
      split
      · exact hc
      · exact hc
theorem tlG_od : ∀ (l : List (List Nat × Int64)) (p : px_NL × List Nat), (∀ d, (stN p.1 d = 1 ∨ stN p.1 d = 2 ∨ stN p.1 d = 3) → d ∈ p.2) → ∀ d, (stN (tlG l p).1 d = 1 ∨ stN (tlG l p).1 d = 2 ∨ stN (tlG l p).1 d = 3) → d ∈ (tlG l p).2
  | [], p, h => h
  | g :: l, p, h => by
    unfold tlG
    refine tlG_od l _ (fun d hd => ?_)
    obtain ⟨r, p1, p2⟩ := plc_at (w := g.1) (xs := p.1)
    show d ∈ p.2 ++ [plc g.1 (p.1.map Prod.fst)]
    have hd : stN (setR (entL g.1 p.1) (plc g.1 (p.1.map Prod.fst)) (gvR g.2)) d = 1 ∨ stN (setR (entL g.1 p.1) (plc g.1 (p.1.map Prod.fst)) (gvR g.2)) d = 2 ∨ stN (setR (entL g.1 p.1) (plc g.1 (p.1.map Prod.fst)) (gvR g.2)) d = 3 := hd
    rw [stN_setR p1] at hd
    by_cases e : d = plc g.1 (p.1.map Prod.fst)
    · exact List.mem_append.mpr (Or.inr (List.mem_singleton.mpr e))
    · rw [if_neg e, stN_ent] at hd
      exact List.mem_append.mpr (Or.inl (h d hd))
theorem tlW_st : ∀ (l : List (List Nat)) (xs : px_NL) (d : Nat), stN (tlW l xs) d = stN xs d
  | [], xs, d => rfl
  | w :: l, xs, d => by
    unfold tlW
    rw [tlW_st l]
    obtain ⟨r, p1, p2⟩ := plc_at (w := w) (xs := xs)
    rw [stN_setR p1]
    by_cases e : d = plc w (xs.map Prod.fst)
    · rw [if_pos e, e, ← stN_ent (w := w), stN_at p1]; rfl
    · rw [if_neg e, stN_ent]
theorem odT_0 {fs : px_FS} {gs : List (List Nat × Int64)} {ws : List (List Nat)} (hf : FSo fs) : odT (taL fs (xs0 gs ws) (od0 gs)).1 := by
  refine TK_inv (P := odT) odT_tk hf (fun d hd => ?_)
  have hd : stN (xs0 gs ws) d = 1 ∨ stN (xs0 gs ws) d = 2 ∨ stN (xs0 gs ws) d = 3 := hd
  unfold xs0 at hd
  rw [tlW_st] at hd
  exact tlG_od gs ([], []) (fun d hd => by
    have h0 : stN ([] : px_NL) d = 0 := by unfold stN; rw [List.getD_eq_getElem?_getD, List.getElem?_nil]; rfl
    rw [h0] at hd
    omega) d hd
theorem own1_st {k d : Nat} {w : List Nat} {xs : px_NL} (h : stN (own1 k w xs) d = 1 ∨ stN (own1 k w xs) d = 2 ∨ stN (own1 k w xs) d = 3) : stN xs d = 1 ∨ stN xs d = 2 ∨ stN xs d = 3 := by
  rcases own1_cs (k := k) (w := w) (xs := xs) with e | ⟨i, e1, e⟩
  · rw [e] at h; exact h
  · rw [e] at h
    cases hx : xs[i]? with
    | none => unfold setR at h; rw [hx] at h; exact h
    | some x =>
      rw [stN_setR hx] at h
      by_cases c : d = i
      · rw [if_pos c] at h
        have h : (4 : Nat) = 1 ∨ (4 : Nat) = 2 ∨ (4 : Nat) = 3 := h
        omega
      · rw [if_neg c] at h; exact h
theorem odT_own {s : px_TS} (h : odT s) : ∀ d, (stN (ownL s.2.1) d = 1 ∨ stN (ownL s.2.1) d = 2 ∨ stN (ownL s.2.1) d = 3) → d ∈ s.2.2.1 := fun d hd => by
  unfold ownL at hd
  exact h d (own1_st (own1_st (own1_st (own1_st hd))))
end
section
/-! keepReached of the class -/
section CKR
variable {F : Nat} {c : px_CT} {sk : Nat → Nat × Nat × Nat} {L : Nat} {τ : px_TT} {own : Nat → Nat × Nat} {fs : px_FS} {s : px_TK} {xs : px_NL} {st cn : Option Nat}
/-- the queue is worked off -/
theorem k_kr_88 (hF : 65536 < F) (hW : WP s.2.2.1.length (tB fs s.2.2.1) s.2.1.1 xs) : ∀ (d k f : Nat) (τ : px_TT) (u : px_CQ), k + d = 1536 → d < f → k ≤ u.2.2.length → RQs sk L own τ fs s xs u → SQ s.2.2.1.length (tB fs s.2.2.1) s.2.1.1 xs st cn u → (∀ m x, m < k → u.2.2[m]? = some x → Cl s.2.2.1.length (tB fs s.2.2.1) s.2.1.1 xs x u.1 u.2.1) → ∃ τ' u', f_Link_keepReached_88 F c f 147 (nI k) (cH sk L τ) = some ((), cH sk L τ') ∧ RQs sk L own τ' fs s xs u' ∧ SQ s.2.2.1.length (tB fs s.2.2.1) s.2.1.1 xs st cn u' ∧ leQ u u' ∧ (∀ x, u'.1 x = true → Cl s.2.2.1.length (tB fs s.2.2.1) s.2.1.1 xs x u'.1 u'.2.1) ∧ frKr τ τ' := by
  intro d
  induction d with
  | zero =>
    intro k f τ u hk hf hkl h hs hc
    obtain ⟨f, rfl⟩ : ∃ x, f = x + 1 := ⟨f - 1, by omega⟩
    have hT := BK_T (s := s) h.1.2.2.2.2.1.1
    have hl : u.2.2.length ≤ 1536 := nodup_le 0 1536 _ h.2.2.2.1 (fun z hz => by have := h.2.2.2.2.2 z hz; omega)
    refine ⟨τ, u, ?_, h, hs, leQ_refl, fun x hx => ?_, frKr_refl⟩
    · unfold f_Link_keepReached_88 f_Link_keepReached_130
      rw [C3g16 (G147 h.1.1), bs, h.2.1, if_pos (nI_le (by omega) (by omega))]
    · obtain ⟨m, hm⟩ := List.getElem?_of_mem ((h.2.2.2.2.1 x).mp hx)
      exact hc m x (by have := (List.getElem?_eq_some_iff.mp hm).1; omega) hm
  | succ d ih =>
    intro k f τ u hk hf hkl h hs hc
    obtain ⟨f, rfl⟩ : ∃ x, f = x + 1 := ⟨f - 1, by omega⟩
    have o147 := G147 h.1.1
    have hT := BK_T (s := s) h.1.2.2.2.2.1.1
    have hl : u.2.2.length ≤ 1536 := nodup_le 0 1536 _ h.2.2.2.1 (fun z hz => by have := h.2.2.2.2.2 z hz; omega)
    unfold f_Link_keepReached_88 f_Link_keepReached_130
    rw [C3g16 o147, bs, h.2.1]
    by_cases ck : u.2.2.length ≤ k
    · rw [if_pos (nI_le ck (by omega))]
      refine ⟨τ, u, rfl, h, hs, leQ_refl, fun x hx => ?_, frKr_refl⟩
      obtain ⟨m, hm⟩ := List.getElem?_of_mem ((h.2.2.2.2.1 x).mp hx)
      exact hc m x (by have := (List.getElem?_eq_some_iff.mp hm).1; omega) hm
    · have hkl : k < u.2.2.length := by omega
      have hx := List.getElem?_eq_getElem hkl
      generalize u.2.2[k] = x at hx
      have hmem : x ∈ u.2.2 := List.mem_of_getElem? hx
      have hxT := h.2.2.2.2.2 x hmem
      have e94 := h.2.2.1 k x hx
      have r10 := GR_r (a := 147) (k := 10) (v := 1694) h.1.2.1 (by decide)
      rw [if_neg (nI_ge hkl (by omega)), C3r10 o147 r10, bs, c_l (G1694 h.1.1) (by decide), bs, if_neg (nI_ge (by omega) (by omega)), bs, c_aN (G1694 h.1.1) (by decide) (by decide) (by omega), bs, e94]
      obtain ⟨τ1, b1, b2, b3⟩ := k_reachFrom (F := F) (c := c) hF hW hxT h
      obtain ⟨g1, g2⟩ := GQ_P (T := s.2.2.1.length) (tb := tB fs s.2.2.1) (dr := s.2.1.1) (xs := xs) (x := x) u
      obtain ⟨l, hl2⟩ := g1.2.2
      have hs1 := SQ_P (n := 0) hxT (fun t ht => Or.inr (by obtain ⟨q, _, _, _, _, he, _⟩ := TKe_ob h.1 ht; exact ⟨_, he⟩)) (hs.1 x ((h.2.2.2.2.1 x).mpr hmem)) hs
      have hlen : u.2.2.length ≤ (cP (tB fs s.2.2.1) s.2.1.1 xs x u).2.2.length := by rw [hl2, List.length_append]; omega
      obtain ⟨τ', u', j1, j2, j3, j4, j5, j6⟩ := ih (k + 1) f τ1 _ (by omega) (by omega) (by omega) b2 hs1 (fun m z hm hz => by
        rw [hl2, List.getElem?_append_left (by omega)] at hz
        by_cases cm : m = k
        · rw [cm, hx] at hz
          have hz : x = z := Option.some.inj hz
          rw [← hz]
          exact g2
        · exact Cl_mQ _ _ _ _ g1.1 g1.2.1 (hc m z (by omega) hz))
      refine ⟨τ', u', ?_, j2, j3, leQ_trans g1 j4, j5, frKr_trans b3 j6⟩
      show ((some 1694 : Option Nat).bind _) = _
      rw [bs, c_aN (G1694 h.1.1) (by decide) (by decide) (by omega), bs, e94, c_o o147, bs, b1, xb_mk]
      unfold f_Link_keepReached_124
      rw [nI_add]
      exact j1
/-- no part stays -/
theorem k_kr_2 (hF : 65536 < F) {rn : Nat → Bool} : ∀ (d k f : Nat) (τ : px_TT) (ST : Nat → Bool), k + d = 24 * s.2.2.1.length → d < f → (∀ x, x < k → ST x = false) → TKe sk L own τ fs s xs ST rn → ∃ τ' ST', f_Link_keepReached_2 F c f 147 (nI k) (cH sk L τ) = f_Link_keepReached_35 F c 147 (cH sk L τ') ∧ (∀ x, x < 24 * s.2.2.1.length → ST' x = false) ∧ TKe sk L own τ' fs s xs ST' rn ∧ frKr τ τ' := by
  intro d
  induction d with
  | zero =>
    intro k f τ ST hk hf hST h
    obtain ⟨f, rfl⟩ : ∃ x, f = x + 1 := ⟨f - 1, by omega⟩
    have hT := BK_T (s := s) h.2.2.2.2.1.1
    refine ⟨τ, ST, ?_, fun x hx => hST x (by omega), h, frKr_refl⟩
    unfold f_Link_keepReached_2
    rw [C3g14 (G147 h.1), bs, h.2.2.2.1.2.2.1, pk_mul, if_pos (nI_le (by omega) (by omega))]
  | succ d ih =>
    intro k f τ ST hk hf hST h
    obtain ⟨f, rfl⟩ : ∃ x, f = x + 1 := ⟨f - 1, by omega⟩
    have hT := BK_T (s := s) h.2.2.2.2.1.1
    have o147 := G147 h.1
    have hkT : k < 24 * s.2.2.1.length := by omega
    obtain ⟨p1, p2, p3, p4⟩ := TKe_part h hkT
    have f1 : frKr τ (tI τ (152 + k) 9 (bI false)) := ⟨fun a j _ q _ => tI_ne (by omega), fun a j q _ => tI_ne (Or.inl (by omega)), fun _ _ => rfl, fun _ _ => rfl, fun _ => rfl, fun _ => rfl, fun _ _ => rfl⟩
    have h1 : TKe sk L own (tI τ (152 + k) 9 (bI false)) fs s xs (fun x => if x = k then false else ST x) rn := TKe_Kr h f1 (fun x hx => by
      show _ = bI (if x = k then false else ST x)
      by_cases e : x = k
      · rw [if_pos e, e, tI_at]
      · rw [if_neg e, tI_ne (Or.inl (by omega))]
        exact (TKe_part h hx).2.1) (fun i y hy e2 => by
      have hge := (h.2.2.2.1.1 149 i _ (Or.inr (Or.inr rfl)) (CLm_at h.2.2.2.1.2.1 hy).2.1).1
      rw [tI_ne (Or.inl (by omega))]
      exact (h.2.2.2.1.2.1.2.1 i y hy).2 e2)
    obtain ⟨τ', ST', j1, j2, j3, j4⟩ := ih (k + 1) f _ _ (by omega) (by omega) (fun x hx => by
      show (if x = k then false else ST x) = false
      by_cases e : x = k
      · rw [if_pos e]
      · rw [if_neg e]; exact hST x (by omega)) h1
    refine ⟨τ', ST', ?_, j2, j3, frKr_trans f1 j4⟩
    unfold f_Link_keepReached_2
    rw [C3g14 o147, bs, h.2.2.2.1.2.2.1, pk_mul, if_neg (nI_ge (by omega) (by omega)), c_o o147, bs, pk_rem (by omega) (by decide) (by decide), pk_div (by omega) (by decide) (by decide), k_part h.1 h.2.1 (by omega) (by omega), xb_mk, bs, show 24 * (k / 24) + k % 24 = k by omega, show xpZ _ 8 9 (152 + k) (nI 0) = _ from C8z9 p1 false, bs, nI_add]
    exact j1
/-- the i-th definition -/
theorem k_definedAt {ST rn : Nat → Bool} {i d : Nat} (h : TKe sk L own τ fs s xs ST rn) (hd : s.1.2.2.1[i]? = some d) : f_Link_definedAt F c 147 (nI i) (cH sk L τ) = some (some (pN τ 149 d), cH sk L τ) := by
  have hS := h.1
  have o147 := G147 hS
  have hl := (List.getElem?_eq_some_iff.mp hd).1
  have hol := h.2.2.2.2.1.1.2.2.2.1
  have hT := BK_T (s := s) h.2.2.2.2.1.1
  obtain ⟨q1, q2⟩ := h.2.2.2.1.2.1.2.2.2 i d hd
  unfold f_Link_definedAt f_Link_definedAt_31 f_Link_definedAt_47
  rw [if_neg (show ¬ nI i < 0 from nI_nlt (b := 0) (Nat.zero_le _) (by omega)), C3g15 o147, bs, h.2.2.2.1.2.1.2.2.1, if_neg (nI_ge hl (by omega)), C3r9 o147 (GR_r (v := 1693) h.2.1 (by decide)), bs, c_l (G1693 hS) (by decide), bs, if_neg (nI_ge (by omega) (by omega)), bs, c_aN (G1693 hS) (by decide) (by decide) (by omega), bs, q2]
/-- no name stays -/
theorem k_kr_37 (hF : 65536 < F) {ST : Nat → Bool} : ∀ (d k f : Nat) (τ : px_TT) (rn : Nat → Bool), k + d = s.1.2.2.1.length → d < f → (∀ i n, i < k → s.1.2.2.1[i]? = some n → rn n = false) → TKe sk L own τ fs s xs ST rn → ∃ τ' rn', f_Link_keepReached_37 F c f 147 (nI k) (cH sk L τ) = f_Link_keepReached_60 F c 147 (cH sk L τ') ∧ (∀ n, n ∈ s.1.2.2.1 → rn' n = false) ∧ TKe sk L own τ' fs s xs ST rn' ∧ frKr τ τ' := by
  intro d
  induction d with
  | zero =>
    intro k f τ rn hk hf hrn h
    obtain ⟨f, rfl⟩ : ∃ x, f = x + 1 := ⟨f - 1, by omega⟩
    have hol := h.2.2.2.2.1.1.2.2.2.1
    have hT := BK_T (s := s) h.2.2.2.2.1.1
    refine ⟨τ, rn, ?_, fun n hn => ?_, h, frKr_refl⟩
    · unfold f_Link_keepReached_37
      rw [C3g15 (G147 h.1), bs, h.2.2.2.1.2.1.2.2.1, if_pos (nI_le (by omega) (by omega))]
    · obtain ⟨i, hi⟩ := List.getElem?_of_mem hn
      exact hrn i n (by have := (List.getElem?_eq_some_iff.mp hi).1; omega) hi
  | succ d ih =>
    intro k f τ rn hk hf hrn h
    obtain ⟨f, rfl⟩ : ∃ x, f = x + 1 := ⟨f - 1, by omega⟩
    have hol := h.2.2.2.2.1.1.2.2.2.1
    have hT := BK_T (s := s) h.2.2.2.2.1.1
    have o147 := G147 h.1
    have hkl : k < s.1.2.2.1.length := by omega
    have hd := List.getElem?_eq_getElem hkl
    generalize s.1.2.2.1[k] = D at hd
    obtain ⟨q1, q2⟩ := h.2.2.2.1.2.1.2.2.2 k D hd
    obtain ⟨z1, z2, z3, z4⟩ := CLm_at h.2.2.2.1.2.1 (List.getElem?_eq_getElem q1)
    have zq := (h.2.2.2.1.1 149 D _ (Or.inr (Or.inr rfl)) z2).1
    obtain ⟨p, hp⟩ : ∃ p, p = pN τ 149 D := ⟨_, rfl⟩
    have ka := k_definedAt (F := F) (c := c) h hd
    rw [← hp] at z2 z3 zq ka
    have f1 : frKr τ (tI τ p 13 (bI false)) := ⟨fun a j q _ _ => tI_ne (Or.inl (by omega)), fun a j _ q => tI_ne (Or.inr q), fun _ _ => rfl, fun _ _ => rfl, fun _ => rfl, fun _ => rfl, fun _ _ => rfl⟩
    have h1 : TKe sk L own (tI τ p 13 (bI false)) fs s xs ST (fun n => if n = D then false else rn n) := TKe_Kr h f1 (fun x hx => by
      rw [tI_ne (Or.inl (by omega))]
      exact (TKe_part h hx).2.1) (fun i y hy e2 => by
      obtain ⟨y1, y2, y3, y4⟩ := CLm_at h.2.2.2.1.2.1 hy
      show _ = bI (if i = D then false else rn i)
      by_cases e : i = D
      · rw [if_pos e, e, ← hp, tI_at]
      · have hne : pN τ 149 i ≠ p := NP_ne h.2.2.2.1.1 (Or.inr (Or.inr rfl)) (Or.inr (Or.inr rfl)) y2 z2 (fun q => e q.2)
        rw [if_neg e, tI_ne (Or.inl hne)]
        exact (h.2.2.2.1.2.1.2.1 i y hy).2 e2)
    obtain ⟨τ', rn', j1, j2, j3, j4⟩ := ih (k + 1) f _ _ (by omega) (by omega) (fun i n hi hn => by
      show (if n = D then false else rn n) = false
      by_cases e : n = D
      · rw [if_pos e]
      · rw [if_neg e]
        by_cases e2 : i = k
        · rw [e2, hd] at hn
          exact absurd (Option.some.inj hn).symm e
        · exact hrn i n (by omega) hn) h1
    refine ⟨τ', rn', ?_, j2, j3, frKr_trans f1 j4⟩
    unfold f_Link_keepReached_37
    rw [C3g15 o147, bs, h.2.2.2.1.2.1.2.2.1, if_neg (nI_ge hkl (by omega)), c_o o147, bs, ka, xb_mk, bs, show xpZ _ 5 13 p (nI 0) = _ from C5z13 z3 false, bs, nI_add]
    exact j1
theorem k_find2 {ST rn : Nat → Bool} {t : Nat} {w : List Nat} (h : TKe sk L own τ fs s xs ST rn) (hF : 4128 < F) (ht : ob sk L 5 t) (hw : isNm τ t w) (hok : okN w) : f_Names_find F c 148 (some t) (cH sk L τ) = some ((idx w 0 (xs.map Prod.fst)).map (pN τ 149), cH sk L τ) := by
  have hC := h.2.2.2.1.2.1
  have hl : (xs.map Prod.fst).length ≤ 4128 := hC.1.2.2.2.1
  exact k_find hC.1 ht hw hok (by omega)
theorem k_keepReached {ST rn : Nat → Bool} (hF : 65536 < F) (hW : WP s.2.2.1.length (tB fs s.2.2.1) s.2.1.1 xs) (h : TKe sk L own τ fs s xs ST rn) (hst : isNm τ 1696 wST) (hod : ∀ d, stN xs d = 2 → d ∈ s.1.2.2.1) (hs : (dfI wST xs).isSome = true) : ∃ τ' R rn', f_Link_keepReached F c 147 (cH sk L τ) = some ((), cH sk L τ') ∧ TKe sk L own τ' fs s xs R rn' ∧ RRo s.2.2.1.length (tB fs s.2.2.1) s.2.1.1 xs true R rn' ∧ frKr τ τ' := by
  have hT := BK_T (s := s) h.2.2.2.2.1.1
  have hol := h.2.2.2.2.1.1.2.2.2.1
  obtain ⟨τ1, ST1, a1, a2, a3, a4⟩ := k_kr_2 (F := F) (c := c) (rn := rn) hF _ 0 F τ ST (Nat.zero_add _) (by omega) (fun x hx => by omega) h
  obtain ⟨τ2, rn2, b1, b2, b3, b4⟩ := k_kr_37 (F := F) (c := c) (ST := ST1) hF _ 0 F τ1 rn (Nat.zero_add _) (by omega) (fun i n hi => by omega) a3
  have o147 := G147 h.1
  obtain ⟨τ3, hτ3⟩ : ∃ x, x = tI τ2 147 16 (nI 0) := ⟨_, rfl⟩
  have f3 : frKr τ2 τ3 := by
    rw [hτ3]
    exact ⟨fun a j _ _ q => tI_ne (by omega), fun a j q _ => tI_ne (Or.inl (by omega)), fun _ _ => rfl, fun _ _ => rfl, fun _ => rfl, fun _ => rfl, fun _ _ => rfl⟩
  have h3 : TKe sk L own τ3 fs s xs (fun _ => false) (fun _ => false) := TKe_Kr b3 f3 (fun x hx => by
    rw [hτ3, tI_ne (Or.inl (by omega)), (TKe_part b3 hx).2.1, a2 x hx]) (fun i y hy e2 => by
    have hge := (b3.2.2.2.1.1 149 i _ (Or.inr (Or.inr rfl)) (CLm_at b3.2.2.2.1.2.1 hy).2.1).1
    rw [hτ3, tI_ne (Or.inl (by omega)), (b3.2.2.2.1.2.1.2.1 i y hy).2 e2, b2 i (hod i (by rw [stN_at hy]; exact e2))])
  have q3 : RQs sk L own τ3 fs s xs (fun _ => false, fun _ => false, []) := ⟨h3, by rw [hτ3, tI_at]; rfl, (fun i x hx => by have hx : ([] : List Nat)[i]? = some x := hx; rw [List.getElem?_nil] at hx; cases hx), List.Pairwise.nil, (fun x => ⟨fun q => (nomatch q), fun q => (nomatch q)⟩), fun x q => nomatch q⟩
  obtain ⟨P, hP⟩ := Option.isSome_iff_exists.mp hs
  have hP1 : idx wST 0 (xs.map Prod.fst) = some P := by
    unfold dfI at hP
    cases e : idx wST 0 (xs.map Prod.fst) with
    | none => rw [e] at hP; cases hP
    | some i =>
      rw [e] at hP
      have hP : (if stN xs i = 0 then none else some i) = some P := hP
      split at hP
      · cases hP
      · rw [← Option.some.inj hP]
  have hPl : P < xs.length := by have := idx_lt hP1; rw [List.length_map] at this; omega
  have hx := List.getElem?_eq_getElem hPl
  generalize xs[P] = x at hx
  have ek := frKr_trans a4 (frKr_trans b4 f3)
  have hst3 : isNm τ3 1696 wST := ⟨(ek.2.2.1 _ _).trans hst.1, (ek.2.2.1 _ _).trans hst.2.1, (ek.2.2.1 _ _).trans hst.2.2.1, (ek.1 1696 3 (by decide) (by decide) (Or.inl (by decide))).trans hst.2.2.2⟩
  have kf := k_find2 (F := F) (c := c) h3 (by omega) (G1696 h.1) hst3 (show okN wST from ⟨by decide, by decide⟩)
  rw [hP1] at kf
  obtain ⟨τ4, c1, c2, c3⟩ := k_reachName (F := F) (c := c) q3 hW hx
  have eR : stR (tB fs s.2.2.1) s.2.1.1 xs = secN (tB fs s.2.2.1) s.2.1.1 x.2 := by
    unfold stR
    rw [hP]
    show secN _ _ (xs.getD P ([], nr0)).2 = _
    rw [List.getD_eq_getElem?_getD, hx]
    rfl
  have eC : stC xs = comN xs P := by unfold stC; rw [hP]
  rw [← eR, ← eC] at c2
  have s0 : SQ s.2.2.1.length (tB fs s.2.2.1) s.2.1.1 xs (stR (tB fs s.2.2.1) s.2.1.1 xs) (stC xs) (fun _ => false, fun _ => false, []) := ⟨fun x q => (nomatch q), fun x q => (nomatch q)⟩
  have s1 := SQ_s (x := stR (tB fs s.2.2.1) s.2.1.1 xs) (SQ_n (x := stC xs) s0 (fun y hy => Or.inl hy)) (fun y hy P p1 p2 => p1 y hy)
  obtain ⟨τ5, u5, d1, d2, d3, d4, d5, d6⟩ := k_kr_88 (F := F) (c := c) hF hW 1536 0 F τ4 _ rfl (by omega) (Nat.zero_le _) c2 s1 (fun m x hm => by omega)
  have l1 := cn1_le (u := ((fun _ => false, fun _ => false, []) : px_CQ)) (x := stC xs)
  have l2 := cs1_le (u := cn1 (stC xs) (fun _ => false, fun _ => false, [])) (x := stR (tB fs s.2.2.1) s.2.1.1 xs)
  have hob : ∀ t, t < s.2.2.1.length → ∃ m, eObj (tB fs s.2.2.1 t) m = 0 := fun t ht => by
    obtain ⟨q, _, _, _, _, he, _⟩ := TKe_ob h ht
    exact ⟨_, he⟩
  have fin := SQ_end (fun t ht => by obtain ⟨m, hm⟩ := hob t ht; exact (eObj_0 hm).1.1.2.1.1) hob (fun y hy => d4.1 y (l2.2 y hy)) (fun y hy => d4.2.1 y (l2.1.2.1 y (l1.2 y hy))) d3 d5
  refine ⟨τ5, u5.1, u5.2.1, ?_, d2.1, fun _ => fin, frKr_trans ek (frKr_trans c3 d6)⟩
  unfold f_Link_keepReached
  rw [a1]
  unfold f_Link_keepReached_35
  rw [b1]
  unfold f_Link_keepReached_60
  rw [C3p16 o147, bs, ← hτ3, C3r3 o147 (GR_r (v := 148) h3.2.1 (by decide)), bs, C3r12 o147 (GR_r (v := 1696) h3.2.1 (by decide)), bs, c_o (G148 h.1), bs, kf, xb_mk]
  show ((xo (cH sk L τ3) 3 147).bind _) = _
  rw [c_o o147, bs, c1, xb_mk]
  unfold f_Link_keepReached_86
  exact d1
end CKR
end
section
/-! resolve of the class -/
def frRs (τ τ' : px_TT) : Prop := (∀ a k, a < 1815 → a ≠ 1695 → (a ≠ 148 ∨ k ≠ 2) → (a ≠ 147 ∨ (k < 14 ∨ 17 < k)) → (a < 152 ∨ 1688 ≤ a) → (¬ (10 ≤ a ∧ a < 138) ∨ (k ≠ 15 ∧ k ≠ 16)) → fI τ' a k = fI τ a k) ∧ (∀ a k, a < 1815 → a ≠ 1695 → (a ≠ 147 ∨ k ≠ 19) → (a < 152 ∨ 1688 ≤ a) → fJ τ' a k = fJ τ a k) ∧ (∀ a k, a < 1815 → (a ≠ 147 ∨ k ≠ 13) → fN τ' a k = fN τ a k) ∧ (∀ a, eI τ' a = eI τ a) ∧ (∀ a, eJ τ' a = eJ τ a) ∧ (∀ a, a ≠ 149 → a ≠ 1692 → a ≠ 1693 → a ≠ 1689 → a ≠ 1694 → eN τ' a = eN τ a)
theorem frRs_trans {τ τ1 τ2 : px_TT} (h : frRs τ τ1) (g : frRs τ1 τ2) : frRs τ τ2 := ⟨fun a k a1 a2 a3 a4 a5 a6 => (g.1 a k a1 a2 a3 a4 a5 a6).trans (h.1 a k a1 a2 a3 a4 a5 a6), fun a k a1 a2 a3 a4 => (g.2.1 a k a1 a2 a3 a4).trans (h.2.1 a k a1 a2 a3 a4), fun a k a1 a2 => (g.2.2.1 a k a1 a2).trans (h.2.2.1 a k a1 a2), fun a => (g.2.2.2.1 a).trans (h.2.2.2.1 a), fun a => (g.2.2.2.2.1 a).trans (h.2.2.2.2.1 a), fun a a1 a2 a3 a4 a5 => (g.2.2.2.2.2 a a1 a2 a3 a4 a5).trans (h.2.2.2.2.2 a a1 a2 a3 a4 a5)⟩
theorem frRs_Ln {N : Nat} {τ τ' : px_TT} (f : frLn N τ τ') : frRs τ τ' := ⟨fun a k a1 a2 a3 a4 a5 a6 => f.1 a k a1 a2 a3 (by omega) a5 a6, fun a k a1 a2 _ a4 => f.2.1 a k a1 a2 a4, f.2.2.1, f.2.2.2.1, f.2.2.2.2.1, fun a a1 a2 a3 a4 _ => f.2.2.2.2.2.1 a a1 a2 a3 a4⟩
theorem frRs_Kr {τ τ' : px_TT} (f : frKr τ τ') : frRs τ τ' := ⟨fun a k a1 a2 a3 a4 a5 a6 => f.1 a k a1 (by omega) (by omega), fun a k _ _ _ _ => f.2.2.1 a k, fun a k _ _ => f.2.2.2.1 a k, f.2.2.2.2.1, f.2.2.2.2.2.1, fun a _ _ _ _ a5 => f.2.2.2.2.2.2 a a5⟩
theorem frRs_b {τ : px_TT} {v : Option Nat} : frRs τ (tN τ 147 13 v) := ⟨fun _ _ _ _ _ _ _ _ => rfl, fun _ _ _ _ _ _ => rfl, fun a k _ h => by rw [fN_tN, if_neg (by omega)], fun _ => rfl, fun _ => rfl, fun _ _ _ _ _ _ => rfl⟩
section CRV
variable {F : Nat} {c : px_CT} {sk sk' : Nat → Nat × Nat × Nat} {L L' : Nat} {τ τ' : px_TT} {own : Nat → Nat × Nat} {fs : px_FS} {s : px_TK} {xs : px_NL} {ST ST' rn rn' : Nat → Bool} {gs : List (List Nat × Int64)} {ws : List (List Nat)} {k : Nat}
theorem CF_FSo (h : CF sk L τ fs) : FSo fs := fun q o n b ho => by
  obtain ⟨x1, x2, x3, x4, x5, x6⟩ := CF_ob h ho
  exact ⟨x1, by rw [← x3]; exact (x6 rfl).2.2⟩
theorem TKe_ST (h : TKe sk L own τ fs s xs ST rn) (h1 : ∀ x, x < 24 * s.2.2.1.length → ST' x = ST x) (h2 : ∀ i, rn' i = rn i) : TKe sk L own τ fs s xs ST' rn' := by
  obtain ⟨a1, a2, a3, ⟨k1, k2, k3, k4⟩, a5, a6, a7⟩ := h
  refine ⟨a1, a2, a3, ⟨k1, ⟨k2.1, fun i x hx => ⟨(k2.2.1 i x hx).1, fun e => by rw [h2]; exact (k2.2.1 i x hx).2 e⟩, k2.2.2⟩, k3, fun t q hq => ?_⟩, a5, a6, a7⟩
  obtain ⟨r1, r2⟩ := k4 t q hq
  have ht := (List.getElem?_eq_some_iff.mp hq).1
  exact ⟨fun i hi => by rw [h1 _ (by omega)]; exact r1 i hi, r2⟩
/-- what can be reached is kept -/
theorem Rch_sec {T : Nat} {tb : Nat → Nat → Nat} {dr : Nat → Bool} {x : Nat} (hS : ∀ t, t < T → oS (tb t) ≤ 24) (hb : AL (byP T tb dr) xs) (h : Rch T tb dr xs (stR tb dr xs) x) : kpB (tb (x / 24)) (x % 24) = true ∧ dr x = false := by
  have hs : ∀ t w y, t < T → secT tb dr t w = some y → kpB (tb (y / 24)) (y % 24) = true ∧ dr y = false := fun t w y ht hy => by
    obtain ⟨e1, e2, e3, e4, e5⟩ := secT_m hy
    have := hS t ht
    rw [e1, show (24 * t + w) / 24 = t by omega, show (24 * t + w) % 24 = w by omega]
    exact ⟨(Bool.and_eq_true _ _).mpr ⟨decide_eq_true e3, e4⟩, e5⟩
  have hn : ∀ (i : Nat) (r : List Nat × px_NR) (y : Nat), xs[i]? = some r → secN tb dr r.2 = some y → kpB (tb (y / 24)) (y % 24) = true ∧ dr y = false := fun i r y hi hy => by
    have hbi := hb i r hi
    unfold byP at hbi
    unfold secN at hy
    cases e : r.2.2.2.2.1 with
    | none => rw [e] at hy; cases hy
    | some q =>
      rw [e] at hy hbi
      have hy : (if r.2.1 = 1 ∨ r.2.1 = 3 then secT tb dr q.1 (wNo dr q.1 (tb q.1) q.2) else none) = some y := hy
      split at hy
      · exact hs _ _ _ hbi.1 hy
      · cases hy
  refine h (fun y => kpB (tb (y / 24)) (y % 24) = true ∧ dr y = false) (fun y hy => ?_) (fun t i j ht _ _ _ _ _ _ y hy => ?_)
  · unfold stR at hy
    cases e : dfI wST xs with
    | none => rw [e] at hy; cases hy
    | some i =>
      rw [e] at hy
      have hy : secN tb dr (xs.getD i ([], nr0)).2 = some y := hy
      rw [List.getD_eq_getElem?_getD] at hy
      cases e2 : xs[i]? with
      | none => rw [e2] at hy; exact (nomatch (show (none : Option Nat) = some y from hy))
      | some r => rw [e2] at hy; exact hn i r y e2 hy
  · unfold secY at hy
    split at hy
    · cases hy
    · split at hy
      · exact hs _ _ _ ht hy
      · cases e2 : xs[plc (yT (tb t) (sY (tb t) i j)) (xs.map Prod.fst)]? with
        | none => rw [e2] at hy; cases hy
        | some r => rw [e2] at hy; exact hn _ r y e2 hy
end CRV
end
section
/-! resolve of the class, whole -/
section CRW
variable {F : Nat} {c : px_CT} {sk sk' : Nat → Nat × Nat × Nat} {L L' : Nat} {τ τ' : px_TT} {own : Nat → Nat × Nat} {fs : px_FS} {s : px_TK} {xs : px_NL} {ST ST' rn rn' : Nat → Bool} {gs : List (List Nat × Int64)} {ws : List (List Nat)} {k : Nat}
theorem WK_init {od : List Nat} (h : ST0 xs od) : WK fs ((0, xs, od, none), (fun _ => false, 0, []), [], fun _ => none) := by
  refine ⟨⟨Nat.zero_le _, fun i x hx => (h.1 i x hx).1, by show xs.length ≤ 32 + 63 * 0; have := h.2.2.2.1; omega, by show od.length ≤ 32 + 63 * 0; have := h.2.2.2.2; omega, Nat.zero_le _, List.nodup_nil, fun q hq => absurd hq List.not_mem_nil⟩, ?_, ?_, h.2.1, fun d hd => stN_lt (xs := xs) (by rw [h.2.2.1 d hd]; decide)⟩
  · intro i x hx
    have := (h.1 i x hx).2.1
    unfold byP
    rw [this.1]
    rcases this.2 with e | e
    · exact Or.inl e
    · exact Or.inr (Or.inl e)
  · intro t k ht
    exact absurd ht (Nat.not_lt_zero t)
theorem TKe_b {v : Option Nat} (h : TKe sk L own τ fs s xs ST rn) : TKe sk L own (tN τ 147 13 v) fs s xs ST rn := by
  obtain ⟨a1, a2, a3, ⟨k1, k2, k3, k4⟩, a5, a6, a7⟩ := h
  have hge : ∀ i, i < xs.length → 1815 ≤ pN τ 149 i := fun i hi => (k1 149 i _ (Or.inr (Or.inr rfl)) (CLm_at k2 (List.getElem?_eq_getElem hi)).2.1).1
  refine ⟨a1, GR_mw a2 (fun a j _ h => by rw [fN_tN, if_neg (by omega)]) (fun _ _ _ _ => rfl) rfl rfl, CF_mv a3 EX_refl ⟨fun _ _ _ _ => rfl, fun a j h => by rw [fN_tN, if_neg (by omega)], fun _ _ => rfl⟩, ⟨NP_fx k1 (fun _ _ => rfl), CLm_fx k2 EX_refl (fun _ _ _ _ => rfl) (fun i x hx e => (k2.2.1 i x hx).2 e) (fun _ _ _ _ => rfl) (fun i hi => by have := hge i hi; rw [fN_tN, if_neg (by omega)]) ⟨by rw [fN_tN, if_neg (by omega)], rfl⟩ rfl rfl rfl, k3, fun t q hq => ?_⟩, a5, a6, a7⟩
  obtain ⟨r1, r2, r3⟩ := k4 t q hq
  exact ⟨r1, r2, r3⟩
theorem CG_b {v : Option Nat} (h : CG sk L τ gs) (hn : NP sk L τ own) : CG sk L (tN τ 147 13 v) gs := CG_Ln (N := 0) h EX_refl (frLn_Tk (t := 0) (frTk_b hn) (by decide))
theorem CW_b {v : Option Nat} (h : CW sk L τ ws) (hn : NP sk L τ own) : CW sk L (tN τ 147 13 v) ws := CW_Ln (N := 0) h EX_refl (frLn_Tk (t := 0) (frTk_b hn) (by decide))
theorem isNm_Rs (h : isNm τ 1696 wST) (f : frRs τ τ') : isNm τ' 1696 wST := ⟨(f.2.1 1696 0 (by decide) (by decide) (by decide) (by decide)).trans h.1, (f.2.1 1696 1 (by decide) (by decide) (by decide) (by decide)).trans h.2.1, (f.2.1 1696 2 (by decide) (by decide) (by decide) (by decide)).trans h.2.2.1, (f.1 1696 3 (by decide) (by decide) (by decide) (by decide) (by decide) (by decide)).trans h.2.2.2⟩
theorem k_resolve {rc : Bool} (hF : 65536 < F) (hS : GS sk L) (hR : GR τ) (hn : NP sk L τ own) (hg : CG sk L τ gs) (hw : CW sk L τ ws) (hf : CF sk L τ fs) (hm : RMk sk L (k + rmT fs [] + 32)) (hnd : (gs.map Prod.fst).Nodup) (hst : isNm τ 1696 wST) (hs : s = taL fs (xs0 gs ws) (od0 gs)) : ∃ sk' L' τ' own' ST rn, f_Link_resolve F c 147 (bI rc) (cH sk L τ) = some (nI (anN fs ws s (xsN s)), cH sk' L' τ') ∧ EX sk L sk' L' ∧ RMk sk' L' k ∧ TKe sk' L' own' τ' fs s (xsN s) ST rn ∧ CG sk' L' τ' gs ∧ CW sk' L' τ' ws ∧ BL sk' L' τ' ∧ isNm τ' 1696 wST ∧ frRs τ τ' ∧ (Z15 τ' (xsN s) ∧ ∀ q, q < 64 → CC2 τ' fs s q) ∧ (anN fs ws s (xsN s) = 0 → ∃ R rn0, RRo s.2.2.1.length (tB fs s.2.2.1) s.2.1.1 (xsN s) rc R rn0 ∧ (∀ x, x < 24 * s.2.2.1.length → ST x = (kpB (tB fs s.2.2.1 (x / 24)) (x % 24) && (!s.2.1.1 x && (!rc || R x)))) ∧ ∀ i, rn i = (!rc || rn0 i)) ∧ (rc = false → ∀ x, ST x = (kpB (tB fs s.2.2.1 (x / 24)) (x % 24) && !s.2.1.1 x)) := by
  have hgl : gs.length ≤ 16 := by have := hg.1.2.2.2.1; rw [List.length_map] at this; exact this
  have hwl : ws.length ≤ 16 := hw.2.2.2.1
  obtain ⟨hst0, hwx⟩ := ST0_xs (gs := gs) (ws := ws) hgl hwl
  have hFSo := CF_FSo hf
  obtain ⟨sk1, L1, τ1, own1, b1, b2, b3, b4, b5, b6, b7, b8, b9, b10, b11, b12, b13, b14, b15, b16⟩ := k_begin (F := F) (c := c) (tb := tB fs []) (k := k + rmT fs []) (by omega) hS hR hn hg hw hm hnd
  have f1 : frRs τ τ1 := ⟨fun a j a1 _ a3 a4 _ a6 => b11 a j a1 a6 a3 (by omega), fun a j a1 _ a3 _ => b14 a j a1 a3, b15, b12, b16, fun a a1 _ a3 _ _ => b13 a a1 a3⟩
  have hf1 : CF sk1 L1 τ1 fs := CF_mv hf b2 ⟨fun a j h hj => b11 a j (by omega) (Or.inr (by omega)) (Or.inl (by omega)) (Or.inl (by omega)), fun a j h => b15 a j (by omega) (Or.inl (by omega)), fun a _ => b12 a⟩
  have t1 : TKs sk1 L1 own1 τ1 fs k ((0, xs0 gs ws, od0 gs, none), (fun _ => false, 0, []), [], fun _ => none) := by
    refine ⟨GS_ex hS b2, b5, hf1, ⟨b4, b8, ⟨b10.1, b10.2.1⟩, fun t q hq => ?_, fun q hq => ?_, fun _ _ => rfl, Nat.zero_le _⟩, WK_init hst0, fun i x hx => ?_, b3, Or.inl ⟨rfl, b10.2.2.2⟩⟩
    · have hq : ([] : List Nat)[t]? = some q := hq
      rw [List.getElem?_nil] at hq; cases hq
    · exact ⟨by rw [(b9 q hq).1]; rfl, fun _ => (b9 q hq).2, fun i w => by cases w⟩
    · have hx : (xs0 gs ws)[i]? = some x := hx
      have := (hst0.1 i x hx).2.1.2
      show x.2.1 ≤ 3
      omega
  obtain ⟨sk2, L2, τ2, own2, c1, c2, c3, c4⟩ := k_rs_6 (F := F) (c := c) (a1 := bI rc) hF 8 0 F sk1 L1 τ1 own1 _ rfl (by omega) rfl (fun q hq => absurd hq List.not_mem_nil) t1
  have hsx : itr (ta1 fs) 0 8 ((0, xs0 gs ws, od0 gs, none), (fun _ => false, 0, []), [], fun _ => none) = s := by rw [hs]; rfl
  rw [hsx] at c1 c3
  have f2 := frRs_trans f1 (frRs_Ln c4)
  have hg2 := CG_Ln b6 c2 c4
  have hw2 := CW_Ln b7 c2 c4
  have hR0 : f_Link_resolve F c 147 (bI rc) (cH sk L τ) = (if s.1.1 = 1 then some (nI 1, cH sk2 L2 τ2) else f_Link_resolve_58 F c 147 (bI rc) (cH sk2 L2 τ2)) := by
    unfold f_Link_resolve
    rw [c_o (G147 hS), bs, b1, xb_mk]
    exact c1
  rw [hR0]
  obtain ⟨e1, e2, e3, e4, e5, e6, e7, e8⟩ := id c3
  have hm2 : RMk sk2 L2 k := ⟨by have := e7.1; omega, by have := e7.2; omega⟩
  have h4 : AL (fun x => x.2.1 ≤ 4) s.1.2.1 := fun i x hx => Nat.le_succ_of_le (e6 i x hx)
  by_cases cs : s.1.1 = 1
  · rw [if_pos cs]
    have hxs : xsN s = s.1.2.1 := by unfold xsN; rw [if_neg (by omega)]
    have han : anN fs ws s (xsN s) = 1 := by unfold anN; rw [if_neg (by omega), cs]
    rw [han, hxs]
    have hbl : BL sk2 L2 τ2 := by
      rcases e8 with q | q
      · rw [cs] at q; exact absurd q.1 (by decide)
      · exact q.2
    obtain ⟨k1, k2, ⟨k3, k4⟩, k5, k6, k7, k8⟩ := e4
    have hTKe : TKe sk2 L2 own2 τ2 fs s s.1.2.1 (fun x => kpB (tB fs s.2.2.1 (x / 24)) (x % 24) && !s.2.1.1 x) (fun _ => true) := by
      refine ⟨e1, e2, e3, ⟨k1, ⟨k2.1, fun i x hx => ?_, k2.2.2.1⟩, k3, fun t q hq => ?_⟩, e5, h4, rfl⟩
      · obtain ⟨⟨r1, r2, r3, r4⟩, r5⟩ := k2.2.1 i x hx
        exact ⟨⟨r1, r2, r3⟩, fun e => r4.1 (Or.inr (Or.inl e))⟩
      · obtain ⟨r1, r2, r3⟩ := k5 t q hq
        refine ⟨fun i hi => ?_, r2, r3⟩
        have := r1 i hi
        show isPe τ2 _ t i _ _ _ _ (kpB (tB fs s.2.2.1 ((24 * t + i) / 24)) ((24 * t + i) % 24) && !s.2.1.1 (24 * t + i))
        rw [show (24 * t + i) / 24 = t by omega, show (24 * t + i) % 24 = i by omega]
        exact this
    exact ⟨sk2, L2, τ2, own2, _, _, rfl, EX_trans b2 c2, hm2, hTKe, hg2, hw2, hbl, isNm_Rs hst f2, f2, ⟨Z15_of k2, k6⟩, fun q => absurd q (by decide), fun _ _ => rfl⟩
  · rw [if_neg cs]
    have cs0 : s.1.1 = 0 := by
      rcases e8 with q | q
      · exact q.1
      · exact absurd q.1 cs
    have hxs : xsN s = ownL s.1.2.1 := by unfold xsN; rw [if_pos cs0]
    have han : anN fs ws s (xsN s) = if lkA fs ws s (ownL s.1.2.1) = true then 2 else 0 := by unfold anN; rw [if_pos cs0, hxs]
    rw [han, hxs]
    have t2 : TKo sk2 L2 own2 τ2 fs s s.1.2.1 := ⟨e1, e2, e3, e4, e5, h4, rfl, by
      rcases e8 with q | q
      · exact q.2
      · exact absurd q.1 cs⟩
    obtain ⟨τ3, τ4, τ5, τ6, d1, d2, d3, d4, d5, d6⟩ := k_own4 (F := F) (c := c) hF t2
    have f6 := frRs_trans f2 (frRs_Ln d6)
    have cc6 : ∀ q, q < 64 → CC2 τ6 fs s q := fun q hq => ⟨(d5.2.2.2.1.2.2.2.2.1 q hq).1, CC1_sX (xs' := s.1.2.1) (ownL_fst.symm) (d5.2.2.2.1.2.2.2.2.1 q hq).2⟩
    have hg6 := CG_Ln hg2 EX_refl d6
    have hw6 := CW_Ln hw2 EX_refl d6
    have hst6 := isNm_Rs hst f6
    have hwn : ∀ w, w ∈ ws → w ∈ (ownL s.1.2.1).map Prod.fst := fun w h => by
      rw [ownL_fst, hs]
      exact txs_0 hFSo (hwx w h)
    obtain ⟨τ7, g1, g2⟩ := k_isNameLeft (F := F) (c := c) hF d5 hw6 hwn hst6
    have hE6 := TKe_of d5
    have hM : ∀ t, t < s.2.2.1.length → oM (tB fs s.2.2.1 t) ≤ 64 := fun t ht => (TKe_ys hE6 t ht).2.2
    rw [clA_lk e5 (by rw [hs]; exact FgI_taL hFSo) (by omega) hM] at g1 g2
    have o147 := G147 e1
    have eq58 : f_Link_resolve_58 F c 147 (bI rc) (cH sk2 L2 τ2) = if bI (lkA fs ws s (ownL s.1.2.1)) = 0 then (if bI rc = 0 then f_Link_resolve_103 F c (cH sk2 L2 τ7) else (xo (cH sk2 L2 τ7) 3 147).bind fun _ => xb (f_Link_keepReached F c 147 (cH sk2 L2 τ7)) fun _ ph7 => f_Link_resolve_103 F c ph7) else some (nI 2, cH sk2 L2 τ7) := by
      unfold f_Link_resolve_58
      rw [c_o o147, bs, d1, xb_mk, c_o o147, bs, d2, xb_mk, c_o o147, bs, d3, xb_mk, c_o o147, bs, d4, xb_mk, c_o o147, bs, g1, xb_mk]
    rw [eq58]
    cases hlk : lkA fs ws s (ownL s.1.2.1) with
    | true =>
      rw [if_neg (show ¬ bI true = 0 by decide), if_pos rfl]
      rcases g2 with g2 | ⟨_, P, hP, g2⟩
      · rw [g2]
        exact ⟨sk2, L2, τ6, own2, _, _, rfl, EX_trans b2 c2, hm2, hE6, hg6, hw6, ⟨1696, wST, d5.2.2.2.2.2.2.2, G1696 e1, hst6, ⟨by decide, by decide⟩⟩, hst6, f6, ⟨Z15_of d5.2.2.2.1.2.1, cc6⟩, fun q => absurd q (by decide), fun _ _ => rfl⟩
      · rw [g2]
        obtain ⟨z1, z2, z3, z4⟩ := CLm_at hE6.2.2.2.1.2.1 (List.getElem?_eq_getElem hP)
        exact ⟨sk2, L2, _, own2, _, _, rfl, EX_trans b2 c2, hm2, TKe_b hE6, CG_b hg6 hE6.2.2.2.1.1, CW_b hw6 hE6.2.2.2.1.1, ⟨_, _, by rw [fN_tN, if_pos ⟨rfl, rfl⟩], z3, z4, z1⟩, hst6, frRs_trans f6 frRs_b, ⟨(Z15_of d5.2.2.2.1.2.1 : Z15 τ6 (ownL s.1.2.1)), cc6⟩, fun q => absurd q (by decide), fun _ _ => rfl⟩
    | false =>
      have g2 : τ7 = τ6 := by
        rcases g2 with g2 | ⟨g2, _⟩
        · exact g2
        · rw [hlk] at g2; cases g2
      have hWP : WP s.2.2.1.length (tB fs s.2.2.1) s.2.1.1 (ownL s.1.2.1) := WP_own (WP_of e5)
      have hbl6 : BL sk2 L2 τ6 := ⟨1696, wST, d5.2.2.2.2.2.2.2, G1696 e1, hst6, ⟨by decide, by decide⟩⟩
      rw [if_pos (show bI false = 0 from rfl), if_neg (show ¬ false = true by decide), g2]
      cases rc with
      | false =>
        rw [if_pos (show bI false = 0 from rfl)]
        refine ⟨sk2, L2, τ6, own2, _, _, rfl, EX_trans b2 c2, hm2, hE6, hg6, hw6, hbl6, hst6, f6, ⟨Z15_of d5.2.2.2.1.2.1, cc6⟩, fun _ => ⟨fun _ => false, fun _ => false, fun q => (nomatch q), fun x hx => ?_, fun i => rfl⟩, fun _ _ => rfl⟩
        show (kpB (tB fs s.2.2.1 (x / 24)) (x % 24) && !s.2.1.1 x) = _
        rw [Bool.not_false, Bool.true_or, Bool.and_true]
      | true =>
        rw [if_neg (show ¬ bI true = 0 by decide), c_o o147, bs]
        have hdf : (dfI wST (ownL s.1.2.1)).isSome = true := by
          unfold lkA at hlk
          have h1 := (Bool.or_eq_false_iff.mp hlk).2
          have h2 := (Bool.or_eq_false_iff.mp h1).2
          cases e : dfI wST (ownL s.1.2.1) with
          | none => rw [e] at h2; cases h2
          | some i => rfl
        obtain ⟨τ8, R, rn8, j1, j2, j3, j4⟩ := k_keepReached (F := F) (c := c) hF hWP hE6 hst6 (fun d hd => odT_own (by rw [hs]; exact odT_0 hFSo) d (Or.inr (Or.inl hd))) hdf
        have f8 := frRs_trans f6 (frRs_Kr j4)
        have hst8 := isNm_Rs hst f8
        have z8 : Z15 τ8 (ownL s.1.2.1) := fun i hi => by
          have hz := Z15_of d5.2.2.2.1.2.1 i hi
          have hge := (hE6.2.2.2.1.1 149 i _ (Or.inr (Or.inr rfl)) (CLm_at hE6.2.2.2.1.2.1 (List.getElem?_eq_getElem hi)).2.1).1
          have ep : pN τ8 149 i = pN τ6 149 i := by unfold pN; rw [j4.2.2.2.2.2.2 149 (by decide)]
          rw [ep, j4.2.1 _ 15 hge (by decide), j4.2.1 _ 16 hge (by decide)]
          exact hz
        refine ⟨sk2, L2, τ8, own2, R, rn8, ?_, EX_trans b2 c2, hm2, j2, CG_Kr hg6 hE6.2.2.2.1.1 j4, CW_Kr hw6 hE6.2.2.2.1.1 j4, ⟨1696, wST, by rw [j4.2.2.2.1]; exact d5.2.2.2.2.2.2.2, G1696 e1, hst8, ⟨by decide, by decide⟩⟩, hst8, f8, ⟨z8, fun q hq => CC2_fx (cc6 q hq) (j4.1 _ 15 (by omega) (by omega) (by omega)) (j4.1 _ 16 (by omega) (by omega) (by omega))⟩, fun _ => ⟨R, rn8, j3, fun x hx => ?_, fun i => by rw [Bool.not_true, Bool.false_or]⟩, fun q => (by cases q)⟩
        · rw [j1, xb_mk]; rfl
        · rw [Bool.not_true, Bool.false_or]
          cases eR : R x with
          | false => rw [Bool.and_false, Bool.and_false]
          | true =>
            obtain ⟨q1, q2⟩ := Rch_sec (fun t ht => (TKe_ys hE6 t ht).2.1) hWP.2.2.1 (((j3 rfl).1 x).mp eR)
            rw [q1, q2]
            rfl
end CRW
end
section
/-! strings and their ends -/
/-- a string of C from f on ends at e -/
def isSt (C : Nat → Nat) (f e : Nat) : Prop := e < 65536 ∧ f ≤ e ∧ C e = 0 ∧ ∀ x, f ≤ x → x < e → C x ≠ 0
section CPO
variable {C : Nat → Nat} {f g e e' : Nat}
theorem isSt_len (h : isSt C f e) : (st C f).length = e - f := st_len h.1 h.2.2.1 (e - f) f (by have := h.2.1; omega) h.2.2.2
theorem isSt_up {d : Nat} (h : isSt C f e) (hd : f + d ≤ e) : isSt C (f + d) e := ⟨h.1, hd, h.2.2.1, fun x h1 h2 => h.2.2.2 x (by omega) h2⟩
theorem isSt_drop : ∀ {d f : Nat}, isSt C f e → f + d ≤ e → (st C f).drop d = st C (f + d)
  | 0, f, h, _ => by rw [List.drop_zero, Nat.add_zero]
  | d + 1, f, h, hd => by
    have hf : C f ≠ 0 := h.2.2.2 f (Nat.le_refl _) (by omega)
    have he := h.1
    rw [st_n (by omega) hf, List.drop_succ_cons, isSt_drop (d := d) (f := f + 1) (isSt_up (d := 1) h (by omega)) (by omega), show f + 1 + d = f + (d + 1) by omega]
theorem isSt_get : ∀ {d f : Nat}, isSt C f e → f + d < e → (st C f)[d]? = some (C (f + d))
  | 0, f, h, hd => by
    have hf : C f ≠ 0 := h.2.2.2 f (Nat.le_refl _) (by omega)
    have he := h.1
    rw [st_n (by omega) hf, List.getElem?_cons_zero, Nat.add_zero]
  | d + 1, f, h, hd => by
    have hf : C f ≠ 0 := h.2.2.2 f (Nat.le_refl _) (by omega)
    have he := h.1
    rw [st_n (by omega) hf, List.getElem?_cons_succ, isSt_get (d := d) (f := f + 1) (isSt_up (d := 1) h (by omega)) (by omega), show f + 1 + d = f + (d + 1) by omega]
theorem sufB_iff {u : List Nat} : ∀ {s : List Nat}, sufB u s = true ↔ u.length ≤ s.length ∧ u = s.drop (s.length - u.length)
  | [] => by
    unfold sufB
    rw [decide_eq_true_iff]
    constructor
    · intro h; rw [h]; exact ⟨Nat.le_refl _, rfl⟩
    · rintro ⟨h1, h2⟩
      rw [List.drop_nil] at h2
      exact h2
  | c :: s => by
    unfold sufB
    rw [Bool.or_eq_true, decide_eq_true_iff, sufB_iff]
    constructor
    · rintro (h | ⟨h1, h2⟩)
      · rw [h, Nat.sub_self]; exact ⟨Nat.le_refl _, rfl⟩
      · refine ⟨by rw [List.length_cons]; omega, ?_⟩
        rw [List.length_cons, show s.length + 1 - u.length = (s.length - u.length) + 1 by omega, List.drop_succ_cons]
        exact h2
    · rintro ⟨h1, h2⟩
      rw [List.length_cons] at h1 h2
      by_cases q : u.length = s.length + 1
      · left
        rw [q, Nat.sub_self, List.drop_zero] at h2
        exact h2
      · right
        refine ⟨by omega, ?_⟩
        rw [show s.length + 1 - u.length = (s.length - u.length) + 1 by omega, List.drop_succ_cons] at h2
        exact h2
/-- one string is an end of another: by their bytes from the end on -/
theorem suf_iff (h : isSt C f e) (h' : isSt C g e') (hn : e - f ≤ e' - g) : sufB (st C f) (st C g) = true ↔ ∀ k, k < e + 1 - f → C (e - k) = C (e' - k) := by
  have l1 := isSt_len h
  have l2 := isSt_len h'
  have h1 := h.2.1
  have h2 := h'.2.1
  rw [sufB_iff, l1, l2, isSt_drop h' (by omega)]
  have h3 := isSt_up (d := e' - g - (e - f)) h' (by omega)
  constructor
  · rintro ⟨_, q⟩ k hk
    by_cases k0 : k = 0
    · rw [k0, Nat.sub_zero, Nat.sub_zero, h.2.2.1, h'.2.2.1]
    · have a1 := isSt_get (d := e - f - k) h (by omega)
      have a2 := isSt_get (d := e - f - k) h3 (by omega)
      rw [q, a2] at a1
      have a3 := Option.some.inj a1
      rw [show g + (e' - g - (e - f)) + (e - f - k) = e' - k by omega, show f + (e - f - k) = e - k by omega] at a3
      exact a3.symm
  · intro q
    refine ⟨hn, List.ext_getElem? (fun d => ?_)⟩
    by_cases hd : f + d < e
    · rw [isSt_get h hd, isSt_get h3 (by omega)]
      have := q (e - f - d) (by omega)
      rw [show e - (e - f - d) = f + d by omega, show e' - (e - f - d) = g + (e' - g - (e - f)) + d by omega] at this
      rw [this]
    · have l3 := isSt_len h3
      rw [List.getElem?_eq_none (by omega), List.getElem?_eq_none (by omega)]
theorem suf_no (h : isSt C f e) (h' : isSt C g e') (hn : ¬ e - f ≤ e' - g) : sufB (st C f) (st C g) = false := by
  have l1 := isSt_len h
  have l2 := isSt_len h'
  refine Bool.eq_false_iff.mpr (fun q => ?_)
  have := (sufB_iff.mp q).1
  omega
end CPO
/-! isEnd of the class's pool -/
section CPE
variable {F : Nat} {c : px_CT} {sk : Nat → Nat × Nat × Nat} {L : Nat} {τ : px_TT} {C : Nat → Nat} {f g e e' : Nat}
/-- the class's store -/
def CB (τ : px_TT) (C : Nat → Nat) : Prop := (∀ k, isB (eI τ 8 k)) ∧ ∀ x, C x = b8 (eI τ 8 x)
theorem CB_eq (h : CB τ C) (x y : Nat) : eI τ 8 x = eI τ 8 y ↔ C x = C y := by
  rw [h.2 x, h.2 y]
  constructor
  · intro q; rw [q]
  · intro q
    rw [h.1 x, h.1 y, q]
theorem k_isEnd_61 (hS : GS sk L) (hb : CB τ C) (h : isSt C f e) (h' : isSt C g e') (hn : e - f ≤ e' - g) : ∀ (d k n : Nat), k + d = e + 1 - f → d < n → (∀ j, j < k → C (e - j) = C (e' - j)) → f_Pool_isEnd_61 F c n (nI f) 8 (nI (g + (e' + 1 - g) - (e + 1 - f)) - nI f) (nI (e + 1 - k) - nI 1) (cH sk L τ) = some (bI (decide (∀ j, j < e + 1 - f → C (e - j) = C (e' - j))), cH sk L τ) := by
  have h1 := h.2.1
  have h2 := h'.2.1
  have h3 := h.1
  have h4 := h'.1
  intro d
  induction d with
  | zero =>
    intro k n hk hd hj
    obtain ⟨n, rfl⟩ : ∃ x, n = x + 1 := ⟨n - 1, by omega⟩
    unfold f_Pool_isEnd_61 f_Pool_isEnd_91
    rw [decide_eq_true (fun j q => hj j (by omega)), show e + 1 - k = f by omega, if_pos (back_lt (by omega))]
    rfl
  | succ d ih =>
    intro k n hk hd hj
    obtain ⟨n, rfl⟩ : ∃ x, n = x + 1 := ⟨n - 1, by omega⟩
    unfold f_Pool_isEnd_61 f_Pool_isEnd_83
    rw [pk_sub (show 1 ≤ e + 1 - k by omega), show e + 1 - k - 1 = e - k by omega, if_neg (nI_nlt (by omega) (by omega)), c_aI (G8 hS) (by decide) (by decide) (by omega), bs]
    have ei : nI (e - k) + (nI (g + (e' + 1 - g) - (e + 1 - f)) - nI f) = nI (e' - k) := by
      rw [Int32.sub_eq_add_neg, ← Int32.add_assoc, ← Int32.sub_eq_add_neg, nI_add, pk_sub (by omega)]
      exact congrArg nI (by omega)
    rw [ei, c_aI (G8 hS) (by decide) (by decide) (by omega), bs]
    by_cases q : C (e - k) = C (e' - k)
    · rw [if_pos ((CB_eq hb _ _).mpr q), nI_back, show nI (e - k) - nI 1 = nI (e + 1 - (k + 1)) - nI 1 by rw [show e + 1 - (k + 1) = e - k by omega]]
      exact ih (k + 1) n (by omega) (by omega) (fun j hj2 => by
        by_cases ej : j = k
        · rw [ej]; exact q
        · exact hj j (by omega))
    · rw [if_neg (fun z => q ((CB_eq hb _ _).mp z)), decide_eq_false (fun z => q (z k (by omega)))]
      rfl
theorem k_isEnd (hS : GS sk L) (hR : GR τ) (hF : 65536 < F) (hb : CB τ C) (h : isSt C f e) (h' : isSt C g e') : f_Pool_isEnd F c 1697 (nI f) (nI (e + 1 - f)) (nI g) (nI (e' + 1 - g)) (cH sk L τ) = some (bI (sufB (st C f) (st C g)), cH sk L τ) := by
  have h1 := h.2.1
  have h2 := h'.2.1
  have h3 := h.1
  have h4 := h'.1
  unfold f_Pool_isEnd f_Pool_isEnd_42
  rw [C9r0 (G1697 hS) (GR_r (v := 7) hR (by decide)), bs, C10r0 (G7 hS) (R7_0 hR), bs]
  by_cases hn : e - f ≤ e' - g
  · rw [if_neg (nI_nlt (by omega) (by omega)), if_neg (show ¬ nI f < 0 from nI_nlt (b := 0) (Nat.zero_le _) (by omega)), if_neg (show ¬ nI g < 0 from nI_nlt (b := 0) (Nat.zero_le _) (by omega)), c_l (G8 hS) (by decide), bs, pk_sub (by omega), if_neg (nI_nlt (by omega) (by omega)), bs, pk_sub (by omega), if_pos (nI_le (by omega) (by omega)), nI_add, nI_add, pk_sub (show e + 1 - f ≤ g + (e' + 1 - g) by omega), show f + (e + 1 - f) = e + 1 - 0 by omega, k_isEnd_61 hS hb h h' hn (e + 1 - f) 0 F (by omega) (by omega) (fun j hj => by omega)]
    congr 3
    exact Bool.eq_iff_iff.mpr (by rw [decide_eq_true_iff, suf_iff h h' hn])
  · rw [if_pos (nI_lt (by omega) (by omega)), suf_no h h' hn]
    rfl
end CPE
end
section
/-! the class's pool takes strings -/
def frPo (τ τ' : px_TT) : Prop := (∀ a k, (a ≠ 1697 ∨ (k ≠ 3 ∧ k ≠ 4)) → fI τ' a k = fI τ a k) ∧ (∀ a k, fJ τ' a k = fJ τ a k) ∧ (∀ a k, fN τ' a k = fN τ a k) ∧ (∀ a, a ≠ 1698 → a ≠ 1699 → eI τ' a = eI τ a) ∧ (∀ a, eJ τ' a = eJ τ a) ∧ ∀ a, eN τ' a = eN τ a
theorem frPo_refl {τ : px_TT} : frPo τ τ := ⟨fun _ _ _ => rfl, fun _ _ => rfl, fun _ _ => rfl, fun _ _ _ => rfl, fun _ => rfl, fun _ => rfl⟩
theorem frPo_trans {τ τ1 τ2 : px_TT} (h : frPo τ τ1) (g : frPo τ1 τ2) : frPo τ τ2 := ⟨fun a k x => (g.1 a k x).trans (h.1 a k x), fun a k => (g.2.1 a k).trans (h.2.1 a k), fun a k => (g.2.2.1 a k).trans (h.2.2.1 a k), fun a x y => (g.2.2.2.1 a x y).trans (h.2.2.2.1 a x y), fun a => (g.2.2.2.2.1 a).trans (h.2.2.2.2.1 a), fun a => (g.2.2.2.2.2 a).trans (h.2.2.2.2.2 a)⟩
theorem eI_v_ne {τ : px_TT} {a b : Nat} {g : Nat → Int32} (h : b ≠ a) : eI (vI τ a g) b = eI τ b := u1_ne h
theorem eI_v_eq {τ : px_TT} {a : Nat} {g : Nat → Int32} : eI (vI τ a g) a = g := (u1_eq : u1 τ.2.2.2.1 a g a = g)
theorem psz_cat {B : Nat → Nat} : ∀ (a b : List Nat), psz B (a ++ b) = psz B a + psz B b
  | [], b => (Nat.zero_add _).symm
  | f :: a, b => by
    show (st B f).length + 1 + psz B (a ++ b) = (st B f).length + 1 + psz B a + psz B b
    rw [psz_cat a b]
    omega
/-- strings that stand somewhere in the first bytes -/
def stL (C : Nat → Nat) (l : List Nat) : Prop := l.Nodup ∧ ∀ f, f ∈ l → f < 32768 ∧ ∃ e, e < 32768 ∧ isSt C f e
theorem stL_len {C : Nat → Nat} {l : List Nat} (h : stL C l) : l.length ≤ 32768 := nodup_le 0 32768 l h.1 (fun x hx => by have := (h.2 x hx).1; omega)
theorem psz_le {C : Nat → Nat} : ∀ (l : List Nat), (∀ f, f ∈ l → f < 32768 ∧ ∃ e, e < 32768 ∧ isSt C f e) → psz C l ≤ 32768 * l.length
  | [], _ => Nat.zero_le _
  | f :: l, h => by
    obtain ⟨h1, e, h2, h3⟩ := h f (List.mem_cons_self ..)
    have := psz_le l (fun g hg => h g (List.mem_cons_of_mem _ hg))
    have hl := isSt_len h3
    have hf := h3.2.1
    show (st C f).length + 1 + psz C l ≤ 32768 * (l.length + 1)
    omega
def CPl (τ : px_TT) (C : Nat → Nat) (l : List Nat) : Prop := fI τ 1697 3 = nI l.length ∧ fI τ 1697 4 = nI (psz C l) ∧ stL C l ∧ ∀ (i f : Nat), l[i]? = some f → eI τ 1698 i = nI f ∧ eI τ 1699 i = nI ((st C f).length + 1)
def adm (C : Nat → Nat) (l : List Nat) (f : Nat) : List Nat := if l.any (fun w => sufB (st C f) (st C w)) = true then l else l.filter (fun w => !sufB (st C w) (st C f)) ++ [f]
section CPA
variable {F : Nat} {c : px_CT} {sk : Nat → Nat × Nat × Nat} {L : Nat} {τ : px_TT} {C : Nat → Nat} {f e : Nat} {l : List Nat}
theorem GR_Po {τ' : px_TT} (h : GR τ) (f : frPo τ τ') : GR τ' := GR_mv h (fun a k _ => f.2.2.1 a k) (fun a k ha _ => f.1 a k (Or.inl (by omega))) (f.2.2.2.2.2 9) (f.2.2.2.2.2 151)
theorem CB_Po {τ' : px_TT} (h : CB τ C) (f : frPo τ τ') : CB τ' C := by
  unfold CB
  rw [f.2.2.2.1 8 (by decide) (by decide)]
  exact h
theorem CPl_at (h : CPl τ C l) {i g : Nat} (hg : l[i]? = some g) : ∃ e', isSt C g e' ∧ e' < 32768 ∧ eI τ 1698 i = nI g ∧ eI τ 1699 i = nI (e' + 1 - g) := by
  obtain ⟨h1, e', h2, h3⟩ := h.2.2.1.2 g (List.mem_of_getElem? hg)
  obtain ⟨a1, a2⟩ := h.2.2.2 i g hg
  have := h3.2.1
  rw [isSt_len h3, show e' - g + 1 = e' + 1 - g by omega] at a2
  exact ⟨e', h3, h2, a1, a2⟩
theorem k_ad_2 (hS : GS sk L) (hR : GR τ) (hF : 65536 < F) (hb : CB τ C) (hp : CPl τ C l) (h : isSt C f e) : ∀ (d i n : Nat), i + d = l.length → d < n → f_Pool_admit_2 F c n 1697 (nI f) (nI (e + 1 - f)) (nI i) (cH sk L τ) = if (l.drop i).any (fun w => sufB (st C f) (st C w)) = true then some ((), cH sk L τ) else f_Pool_admit_38 F c 1697 (nI f) (nI (e + 1 - f)) (cH sk L τ) := by
  have hl := stL_len hp.2.2.1
  have o := G1697 hS
  intro d
  induction d with
  | zero =>
    intro i n hi hd
    obtain ⟨n, rfl⟩ : ∃ x, n = x + 1 := ⟨n - 1, by omega⟩
    unfold f_Pool_admit_2
    rw [C9g3 o, bs, hp.1, if_pos (nI_le (by omega) (by omega)), List.drop_of_length_le (by omega), List.any_nil, if_neg (by decide)]
  | succ d ih =>
    intro i n hi hd
    obtain ⟨n, rfl⟩ : ∃ x, n = x + 1 := ⟨n - 1, by omega⟩
    have hil : i < l.length := by omega
    have hg := List.getElem?_eq_getElem hil
    have hdr : l.drop i = l[i] :: l.drop (i + 1) := List.drop_eq_getElem_cons hil
    generalize l[i] = g at hg hdr
    obtain ⟨e', g1, g2, g3, g4⟩ := CPl_at hp hg
    unfold f_Pool_admit_2 f_Pool_admit_31
    rw [C9g3 o, bs, hp.1, if_neg (nI_ge hil (by omega)), C9r1 o (GR_r (v := 1698) hR (by decide)), bs, c_aI (G1698 hS) (by decide) (by decide) (by omega), bs, C9r2 o (GR_r (v := 1699) hR (by decide)), bs, c_aI (G1699 hS) (by decide) (by decide) (by omega), bs, c_o o, bs, g3, g4, k_isEnd hS hR hF hb h g1, xb_mk, hdr, List.any_cons]
    cases hs : sufB (st C f) (st C g) with
    | true => rw [if_neg (show ¬ bI true = 0 by decide), Bool.true_or, if_pos rfl]
    | false =>
      rw [if_pos (show bI false = 0 from rfl), Bool.false_or, nI_add]
      exact ih (i + 1) n (by omega) (by omega)
/-- the second loop: P is kept, i is looked at -/
theorem k_ad_43 (hS : GS sk L) (hF : 65536 < F) (h : isSt C f e) (hst : stL C l) : ∀ (d i n : Nat) (τ : px_TT) (P : List Nat), i + d = l.length → d < n → P.length ≤ i → GR τ → CB τ C → fI τ 1697 3 = nI l.length → fI τ 1697 4 = nI (psz C (P ++ l.drop i)) → stL C (P ++ l.drop i) → (∀ (k g : Nat), P[k]? = some g → eI τ 1698 k = nI g ∧ eI τ 1699 k = nI ((st C g).length + 1)) → (∀ (k g : Nat), i ≤ k → l[k]? = some g → eI τ 1698 k = nI g ∧ eI τ 1699 k = nI ((st C g).length + 1)) → ∃ τ', f_Pool_admit_43 F c n 1697 (nI f) (nI (e + 1 - f)) (nI P.length) (nI i) (cH sk L τ) = f_Pool_admit_129 F c 1697 (nI f) (nI (e + 1 - f)) (nI (P ++ (l.drop i).filter (fun w => !sufB (st C w) (st C f))).length) (cH sk L τ') ∧ fI τ' 1697 4 = nI (psz C (P ++ (l.drop i).filter (fun w => !sufB (st C w) (st C f)))) ∧ (∀ (k g : Nat), (P ++ (l.drop i).filter (fun w => !sufB (st C w) (st C f)))[k]? = some g → eI τ' 1698 k = nI g ∧ eI τ' 1699 k = nI ((st C g).length + 1)) ∧ frPo τ τ' := by
  have hl := stL_len hst
  have o := G1697 hS
  intro d
  induction d with
  | zero =>
    intro i n τ P hi hd hPi hR hb h3 h4 hsP hP hK
    obtain ⟨n, rfl⟩ : ∃ x, n = x + 1 := ⟨n - 1, by omega⟩
    have hdr : l.drop i = [] := List.drop_of_length_le (by omega)
    rw [hdr] at h4 ⊢
    rw [List.filter_nil, List.append_nil] at *
    refine ⟨τ, ?_, h4, hP, frPo_refl⟩
    unfold f_Pool_admit_43
    rw [C9g3 o, bs, h3, if_pos (nI_le (by omega) (by omega))]
  | succ d ih =>
    intro i n τ P hi hd hPi hR hb h3 h4 hsP hP hK
    obtain ⟨n, rfl⟩ : ∃ x, n = x + 1 := ⟨n - 1, by omega⟩
    have hil : i < l.length := by omega
    have hg := List.getElem?_eq_getElem hil
    have hdr : l.drop i = l[i] :: l.drop (i + 1) := List.drop_eq_getElem_cons hil
    generalize l[i] = g at hg hdr
    obtain ⟨g0, e', g2, g1⟩ := hst.2 g (List.mem_of_getElem? hg)
    obtain ⟨g3, g4⟩ := hK i g (Nat.le_refl _) hg
    have hge := g1.2.1
    have g4' := g4
    rw [isSt_len g1, show e' - g + 1 = e' + 1 - g by omega] at g4'
    have hpz := psz_le _ hsP.2
    have hPl := stL_len hsP
    rw [List.length_append] at hPl
    rw [hdr] at h4 hsP ⊢
    have hP15 : P.length < 32769 := by omega
    unfold f_Pool_admit_43
    rw [C9g3 o, bs, h3, if_neg (nI_ge hil (by omega)), C9r1 o (GR_r (v := 1698) hR (by decide)), bs, c_aI (G1698 hS) (by decide) (by decide) (by omega), bs, C9r2 o (GR_r (v := 1699) hR (by decide)), bs, c_aI (G1699 hS) (by decide) (by decide) (by omega), bs, c_o o, bs, g3, g4', k_isEnd hS hR hF hb g1 h, xb_mk]
    cases hs : sufB (st C g) (st C f) with
    | false =>
      rw [if_pos (show bI false = 0 from rfl), C9r1 o (GR_r (v := 1698) hR (by decide)), bs, bs, c_aI (G1698 hS) (by decide) (by decide) (by omega), bs, g3, c_sI (G1698 hS) (by decide) (by decide) hP15, bs]
      obtain ⟨τ1, hτ1⟩ : ∃ x, x = vI τ 1698 (upd (eI τ 1698) P.length (nI g)) := ⟨_, rfl⟩
      rw [← hτ1]
      have e99 : eI τ1 1699 = eI τ 1699 := by rw [hτ1]; exact eI_v_ne (by decide)
      have r2 : fN τ1 1697 2 = some 1699 := by rw [hτ1]; exact GR_r (τ := τ) hR (by decide)
      rw [C9r2 o r2, bs, bs, c_aI (G1699 hS) (by decide) (by decide) (by omega), bs, e99, g4, c_sI (G1699 hS) (by decide) (by decide) hP15, bs]
      obtain ⟨τ2, hτ2⟩ : ∃ x, x = vI τ1 1699 (upd (eI τ1 1699) P.length (nI ((st C g).length + 1))) := ⟨_, rfl⟩
      rw [← hτ2]
      have e98 : eI τ2 1698 = upd (eI τ 1698) P.length (nI g) := by
        rw [hτ2, eI_v_ne (by decide), hτ1, eI_v_eq]
      have e992 : eI τ2 1699 = upd (eI τ 1699) P.length (nI ((st C g).length + 1)) := by
        rw [hτ2, e99, eI_v_eq]
      have f2 : frPo τ τ2 := ⟨fun a k _ => by rw [hτ2, hτ1]; rfl, fun a k => by rw [hτ2, hτ1]; rfl, fun a k => by rw [hτ2, hτ1]; rfl, fun a q1 q2 => by rw [hτ2, eI_v_ne q2, hτ1, eI_v_ne q1], fun a => by rw [hτ2, hτ1]; rfl, fun a => by rw [hτ2, hτ1]; rfl⟩
      have hcat : P ++ g :: l.drop (i + 1) = (P ++ [g]) ++ l.drop (i + 1) := by rw [List.append_assoc]; rfl
      rw [hcat] at h4 hsP
      have hfl : P ++ (g :: l.drop (i + 1)).filter (fun w => !sufB (st C w) (st C f)) = (P ++ [g]) ++ (l.drop (i + 1)).filter (fun w => !sufB (st C w) (st C f)) := by
        rw [List.filter_cons_of_pos (by rw [hs]; rfl), List.append_assoc]
        rfl
      rw [hfl]
      obtain ⟨τ', j1, j2, j3, j4⟩ := ih (i + 1) n τ2 (P ++ [g]) (by omega) (by omega) (by rw [List.length_append, List.length_singleton]; omega) (GR_Po hR f2) (CB_Po hb f2) (by rw [hτ2, hτ1]; exact h3) (by rw [hτ2, hτ1]; exact h4) hsP (fun k g' hk => by
        rw [e98, e992]
        by_cases ck : k < P.length
        · rw [List.getElem?_append_left ck] at hk
          rw [upd_ne (by omega), upd_ne (by omega)]
          exact hP k g' hk
        · have ek : k = P.length := by
            have := (List.getElem?_eq_some_iff.mp hk).1
            rw [List.length_append, List.length_singleton] at this
            omega
          rw [ek, List.getElem?_append_right (Nat.le_refl _), Nat.sub_self] at hk
          have hk : g = g' := Option.some.inj hk
          rw [ek, upd_eq, upd_eq, hk]
          exact ⟨rfl, rfl⟩) (fun k g' hk hk2 => by
        rw [e98, e992, upd_ne (by omega), upd_ne (by omega)]
        exact hK k g' (by omega) hk2)
      refine ⟨τ', ?_, j2, j3, frPo_trans f2 j4⟩
      unfold f_Pool_admit_123
      rw [nI_add, nI_add, show P.length + 1 = (P ++ [g]).length by rw [List.length_append, List.length_singleton]]
      exact j1
    | true =>
      have hpg : psz C (P ++ g :: l.drop (i + 1)) = psz C (P ++ l.drop (i + 1)) + ((st C g).length + 1) := by
        rw [psz_cat, psz_cat]
        show psz C P + ((st C g).length + 1 + psz C (l.drop (i + 1))) = _
        omega
      rw [if_neg (show ¬ bI true = 0 by decide), C9g4 o, bs, h4, C9r2 o (GR_r (v := 1699) hR (by decide)), bs, c_aI (G1699 hS) (by decide) (by decide) (by omega), bs, g4, hpg, pk_sub (by omega), Nat.add_sub_cancel, C9p4 o, bs]
      obtain ⟨τ1, hτ1⟩ : ∃ x, x = tI τ 1697 4 (nI (psz C (P ++ l.drop (i + 1)))) := ⟨_, rfl⟩
      rw [← hτ1]
      have f1 : frPo τ τ1 := by
        rw [hτ1]
        exact ⟨fun a k q => tI_ne (by omega), fun _ _ => rfl, fun _ _ => rfl, fun _ _ _ => rfl, fun _ => rfl, fun _ => rfl⟩
      have hfl : P ++ (g :: l.drop (i + 1)).filter (fun w => !sufB (st C w) (st C f)) = P ++ (l.drop (i + 1)).filter (fun w => !sufB (st C w) (st C f)) := by
        rw [List.filter_cons_of_neg (by rw [hs]; decide)]
      rw [hfl]
      have hsP1 : stL C (P ++ l.drop (i + 1)) := by
        refine ⟨?_, fun z hz => hsP.2 z ?_⟩
        · exact List.Nodup.sublist (List.Sublist.append_left (List.sublist_cons_self _ _) P) hsP.1
        · rcases List.mem_append.mp hz with q | q
          · exact List.mem_append.mpr (Or.inl q)
          · exact List.mem_append.mpr (Or.inr (List.mem_cons_of_mem _ q))
      obtain ⟨τ', j1, j2, j3, j4⟩ := ih (i + 1) n τ1 P (by omega) (by omega) (by omega) (GR_Po hR f1) (CB_Po hb f1) (by rw [hτ1, tI_ne (Or.inr (by decide))]; exact h3) (by rw [hτ1, tI_at]) hsP1 (by rw [hτ1]; exact hP) (fun k g' hk hk2 => by rw [hτ1]; exact hK k g' (by omega) hk2)
      refine ⟨τ', ?_, j2, j3, frPo_trans f1 j4⟩
      unfold f_Pool_admit_123
      rw [nI_add]
      exact j1
theorem k_admit (hS : GS sk L) (hR : GR τ) (hF : 65536 < F) (hb : CB τ C) (hp : CPl τ C l) (h : isSt C f e) (he : e < 32768) : ∃ τ', f_Pool_admit F c 1697 (nI f) (nI (e + 1 - f)) (cH sk L τ) = some ((), cH sk L τ') ∧ CPl τ' C (adm C l f) ∧ frPo τ τ' := by
  have hl := stL_len hp.2.2.1
  have o := G1697 hS
  have hfe := h.2.1
  unfold f_Pool_admit adm
  rw [k_ad_2 hS hR hF hb hp h l.length 0 F (by omega) (by omega), List.drop_zero]
  by_cases ca : l.any (fun w => sufB (st C f) (st C w)) = true
  · rw [if_pos ca, if_pos ca]
    exact ⟨τ, rfl, hp, frPo_refl⟩
  · rw [if_neg ca, if_neg ca]
    have hnf : f ∉ l := fun q => ca (List.any_eq_true.mpr ⟨f, q, sufB_refl⟩)
    unfold f_Pool_admit_38
    obtain ⟨τ1, a1, a2, a3, a4⟩ := k_ad_43 (F := F) (c := c) hS hF h hp.2.2.1 l.length 0 F τ [] (by omega) (by omega) (Nat.le_refl _) hR hb hp.1 hp.2.1 hp.2.2.1 (fun k g hk => by rw [List.getElem?_nil] at hk; cases hk) (fun k g _ hk => hp.2.2.2 k g hk)
    rw [List.drop_zero, List.nil_append] at a1 a2 a3
    have a1 : f_Pool_admit_43 F c F 1697 (nI f) (nI (e + 1 - f)) (nI 0) (nI 0) (cH sk L τ) = _ := a1
    rw [a1]
    obtain ⟨Q, hQ⟩ : ∃ Q, Q = l.filter (fun w => !sufB (st C w) (st C f)) := ⟨_, rfl⟩
    rw [← hQ] at a2 a3 ⊢
    have hsub : List.Sublist Q l := by rw [hQ]; exact List.filter_sublist
    have hQn : Q.Nodup := List.Nodup.sublist hsub hp.2.2.1.1
    have hstQ : stL C (Q ++ [f]) := by
      refine ⟨List.nodup_append.mpr ⟨hQn, List.Pairwise.cons (fun _ h => nomatch h) List.Pairwise.nil, fun a ha b' hb' q => ?_⟩, fun z hz => ?_⟩
      · rw [List.mem_singleton] at hb'
        rw [q, hb'] at ha
        exact hnf (hsub.mem ha)
      · rcases List.mem_append.mp hz with q | q
        · exact hp.2.2.1.2 z (hsub.mem q)
        · rw [List.mem_singleton] at q
          rw [q]
          exact ⟨by omega, e, he, h⟩
    have hQl := stL_len hstQ
    rw [List.length_append, List.length_singleton] at hQl
    have hpz := psz_le _ hstQ.2
    rw [psz_app, List.length_append, List.length_singleton] at hpz
    have hfl := isSt_len h
    have hR1 := GR_Po hR a4
    unfold f_Pool_admit_129 f_Pool_admit_186
    rw [C9p3 o, bs]
    obtain ⟨τ2, hτ2⟩ : ∃ x, x = tI τ1 1697 3 (nI Q.length) := ⟨_, rfl⟩
    have e3 : fI τ2 1697 3 = nI Q.length := by rw [hτ2, tI_at]
    have r1 : fN τ2 1697 1 = some 1698 := by rw [hτ2]; exact GR_r (τ := τ1) hR1 (by decide)
    rw [← hτ2, C9g3 o, bs, e3, C9r1 o r1, bs, c_l (G1698 hS) (by decide), bs, if_neg (nI_ge (by omega) (by omega)), bs, bs, c_sI (G1698 hS) (by decide) (by decide) (by omega), bs]
    obtain ⟨τ3, hτ3⟩ : ∃ x, x = vI τ2 1698 (upd (eI τ2 1698) Q.length (nI f)) := ⟨_, rfl⟩
    have e33 : fI τ3 1697 3 = nI Q.length := by rw [hτ3]; exact e3
    have r2 : fN τ3 1697 2 = some 1699 := by rw [hτ3, hτ2]; exact GR_r (τ := τ1) hR1 (by decide)
    rw [← hτ3, C9r2 o r2, bs, C9g3 o, bs, e33, c_sI (G1699 hS) (by decide) (by decide) (by omega), bs]
    obtain ⟨τ4, hτ4⟩ : ∃ x, x = vI τ3 1699 (upd (eI τ3 1699) Q.length (nI (e + 1 - f))) := ⟨_, rfl⟩
    have e34 : fI τ4 1697 3 = nI Q.length := by rw [hτ4]; exact e33
    rw [← hτ4, C9g3 o, bs, e34, nI_add, C9p3 o, bs]
    obtain ⟨τ5, hτ5⟩ : ∃ x, x = tI τ4 1697 3 (nI (Q.length + 1)) := ⟨_, rfl⟩
    have e45 : fI τ5 1697 4 = nI (psz C Q) := by rw [hτ5, tI_ne (Or.inr (by decide)), hτ4, hτ3]; show fI τ2 1697 4 = _; rw [hτ2, tI_ne (Or.inr (by decide))]; exact a2
    rw [← hτ5, C9g4 o, bs, e45, nI_add, C9p4 o, bs]
    obtain ⟨τ6, hτ6⟩ : ∃ x, x = tI τ5 1697 4 (nI (psz C Q + (e + 1 - f))) := ⟨_, rfl⟩
    rw [← hτ6]
    have e98 : eI τ6 1698 = upd (eI τ1 1698) Q.length (nI f) := by
      rw [hτ6, hτ5]
      show eI τ4 1698 = _
      rw [hτ4, eI_v_ne (by decide), hτ3, eI_v_eq, hτ2]
      rfl
    have e99 : eI τ6 1699 = upd (eI τ1 1699) Q.length (nI (e + 1 - f)) := by
      rw [hτ6, hτ5]
      show eI τ4 1699 = _
      rw [hτ4, eI_v_eq, hτ3, eI_v_ne (by decide), hτ2]
      rfl
    have f6 : frPo τ1 τ6 := ⟨fun a k q => by rw [hτ6, tI_ne (by omega), hτ5, tI_ne (by omega), hτ4, hτ3]; show fI τ2 a k = _; rw [hτ2, tI_ne (by omega)], fun a k => by rw [hτ6, hτ5, hτ4, hτ3, hτ2]; rfl, fun a k => by rw [hτ6, hτ5, hτ4, hτ3, hτ2]; rfl, fun a q1 q2 => by rw [hτ6, hτ5]; show eI τ4 a = _; rw [hτ4, eI_v_ne q2, hτ3, eI_v_ne q1, hτ2]; rfl, fun a => by rw [hτ6, hτ5, hτ4, hτ3, hτ2]; rfl, fun a => by rw [hτ6, hτ5, hτ4, hτ3, hτ2]; rfl⟩
    refine ⟨τ6, rfl, ⟨?_, ?_, hstQ, fun i g hg => ?_⟩, frPo_trans a4 f6⟩
    · rw [hτ6, tI_ne (Or.inr (by decide)), hτ5, tI_at, List.length_append, List.length_singleton]
    · rw [hτ6, tI_at, psz_app, hfl, show e - f + 1 = e + 1 - f by omega]
    · rw [e98, e99]
      by_cases ci : i < Q.length
      · rw [List.getElem?_append_left ci] at hg
        rw [upd_ne (by omega), upd_ne (by omega)]
        exact a3 i g hg
      · have ei : i = Q.length := by
          have := (List.getElem?_eq_some_iff.mp hg).1
          rw [List.length_append, List.length_singleton] at this
          omega
        rw [ei, List.getElem?_append_right (Nat.le_refl _), Nat.sub_self] at hg
        have hg : f = g := Option.some.inj hg
        rw [ei, upd_eq, upd_eq, ← hg, hfl, show e - f + 1 = e + 1 - f by omega]
        exact ⟨rfl, rfl⟩
end CPA
end
section
/-! collect of the class's pool -/
def cl1 (C : Nat → Nat) (A j : Nat) (l : List Nat) : List Nat := if C (A + j) = 0 then adm C l (frm C A j) else l
section CPC
variable {F : Nat} {c : px_CT} {sk : Nat → Nat × Nat × Nat} {L : Nat} {τ : px_TT} {C : Nat → Nat} {A Z ss : Nat}
theorem k_at8 {i : Nat} (hS : GS sk L) (hR : GR τ) (hb : CB τ C) (h71 : fI τ 7 1 = nI ss) (hss : ss ≤ 65536) (hi : i < ss) : f_Row_at F c 7 (nI i) (cH sk L τ) = some (nI (C i), cH sk L τ) := by
  rw [k_rowAt (G7 hS) (R7_0 hR) (G8 hS) rfl h71 hss (by decide) (by omega), if_pos hi, hb.2 i]
theorem CB_lt (hb : CB τ C) (x : Nat) : C x < 256 := by rw [hb.2 x]; exact b8_lt _
theorem frm_st {j : Nat} (h : A + j < 65536) (h0 : C (A + j) = 0) : isSt C (frm C A j) (A + j) := by
  obtain ⟨h1, h2, h3⟩ := frm_le (B := C) (p := A) j
  exact ⟨h, h2, h0, h3⟩
theorem k_collect_21 (hS : GS sk L) (hF : 65536 < F) (hA : A + Z ≤ ss) (hss : ss ≤ 32768) : ∀ (d j n : Nat) (τ : px_TT) (l : List Nat), j + d = Z → d < n → GR τ → CB τ C → fI τ 7 1 = nI ss → CPl τ C l → ∃ τ', f_Pool_collect_21 F c n 1697 (nI (frm C A j)) (nI (A + Z)) (nI (A + j)) (cH sk L τ) = some ((), cH sk L τ') ∧ CPl τ' C (itr (cl1 C A) j d l) ∧ frPo τ τ' := by
  intro d
  induction d with
  | zero =>
    intro j n τ l hj hd hR hb h71 hp
    obtain ⟨n, rfl⟩ : ∃ x, n = x + 1 := ⟨n - 1, by omega⟩
    refine ⟨τ, ?_, hp, frPo_refl⟩
    unfold f_Pool_collect_21 f_Pool_collect_61
    rw [if_pos (nI_le (by omega) (by omega))]
  | succ d ih =>
    intro j n τ l hj hd hR hb h71 hp
    obtain ⟨n, rfl⟩ : ∃ x, n = x + 1 := ⟨n - 1, by omega⟩
    have o := G1697 hS
    have hC := CB_lt hb (A + j)
    obtain ⟨m1, m2, m3⟩ := frm_le (B := C) (p := A) j
    unfold f_Pool_collect_21 f_Pool_collect_55
    rw [if_neg (nI_ge (by omega) (by omega)), C9r0 o (GR_r (v := 7) hR (by decide)), bs, c_o (G7 hS), bs, k_at8 hS hR hb h71 (by omega) (by omega), xb_mk, itr_s]
    by_cases c0 : C (A + j) = 0
    · have hst := frm_st (C := C) (A := A) (j := j) (by omega) c0
      obtain ⟨τ1, a1, a2, a3⟩ := k_admit (F := F) (c := c) hS hR hF hb hp hst (by omega)
      obtain ⟨τ', j1, j2, j3⟩ := ih (j + 1) n τ1 (adm C l (frm C A j)) (by omega) (by omega) (GR_Po hR a3) (CB_Po hb a3) (by rw [a3.1 7 1 (by omega)]; exact h71) a2
      rw [frm_s, if_pos c0] at j1
      refine ⟨τ', ?_, by unfold cl1; rw [if_pos c0]; exact j2, frPo_trans a3 j3⟩
      rw [if_pos (show nI (C (A + j)) = 0 by rw [c0]; rfl), c_o o, bs, nI_add, pk_sub (by omega), a1, xb_mk]
      exact j1
    · obtain ⟨τ', j1, j2, j3⟩ := ih (j + 1) n τ l (by omega) (by omega) hR hb h71 hp
      rw [frm_s, if_neg c0] at j1
      refine ⟨τ', ?_, by unfold cl1; rw [if_neg c0]; exact j2, j3⟩
      rw [if_neg (show ¬ nI (C (A + j)) = 0 from fun q => c0 ((nI_eq (b := 0) (by omega) (by decide)).mp q)), nI_add]
      exact j1
theorem k_collect {p : Nat} {l : List Nat} (hS : GS sk L) (hF : 65536 < F) (hA : A + Z ≤ ss) (hss : ss ≤ 32768) (hp : ob sk L 8 p) (h7 : fI τ p 7 = nI A) (h5 : fI τ p 5 = nI Z) (hR : GR τ) (hb : CB τ C) (h71 : fI τ 7 1 = nI ss) (hc : CPl τ C l) : ∃ τ', f_Pool_collect F c 1697 (some p) (cH sk L τ) = some ((), cH sk L τ') ∧ CPl τ' C (itr (cl1 C A) 0 Z l) ∧ frPo τ τ' := by
  obtain ⟨τ', j1, j2, j3⟩ := k_collect_21 (F := F) (c := c) hS hF hA hss Z 0 F τ l (by omega) (by omega) hR hb h71 hc
  refine ⟨τ', ?_, j2, j3⟩
  unfold f_Pool_collect
  rw [bs, C8g7 hp, bs, h7, bs, C8g5 hp, bs, h5, bs, nI_add]
  exact j1
end CPC
end
section
/-! what stays while all is laid out -/
def frLy (τ τ' : px_TT) : Prop := (∀ a k, a < 1815 → a ≠ 1697 → a ≠ 1700 → fI τ' a k = fI τ a k) ∧ (∀ a k, 1815 ≤ a → k ≠ 15 → k ≠ 16 → fI τ' a k = fI τ a k) ∧ (∀ a k, a < 1815 → a ≠ 1697 → a ≠ 1700 → (a < 152 ∨ 1688 ≤ a ∨ k ≠ 11) → fJ τ' a k = fJ τ a k) ∧ (∀ a k, 1815 ≤ a → k ≠ 14 → fJ τ' a k = fJ τ a k) ∧ (∀ a k, fN τ' a k = fN τ a k) ∧ (∀ a, (a < 1698 ∨ 1709 < a) → eI τ' a = eI τ a) ∧ (∀ a, (a < 1704 ∨ 1707 < a) → eJ τ' a = eJ τ a) ∧ ∀ a, a ≠ 1701 → eN τ' a = eN τ a
theorem frLy_refl {τ : px_TT} : frLy τ τ := ⟨fun _ _ _ _ _ => rfl, fun _ _ _ _ _ => rfl, fun _ _ _ _ _ _ => rfl, fun _ _ _ _ => rfl, fun _ _ => rfl, fun _ _ => rfl, fun _ _ => rfl, fun _ _ => rfl⟩
theorem frLy_trans {τ τ1 τ2 : px_TT} (h : frLy τ τ1) (g : frLy τ1 τ2) : frLy τ τ2 := ⟨fun a k x y z => (g.1 a k x y z).trans (h.1 a k x y z), fun a k x y z => (g.2.1 a k x y z).trans (h.2.1 a k x y z), fun a k x y z w => (g.2.2.1 a k x y z w).trans (h.2.2.1 a k x y z w), fun a k x y => (g.2.2.2.1 a k x y).trans (h.2.2.2.1 a k x y), fun a k => (g.2.2.2.2.1 a k).trans (h.2.2.2.2.1 a k), fun a x => (g.2.2.2.2.2.1 a x).trans (h.2.2.2.2.2.1 a x), fun a x => (g.2.2.2.2.2.2.1 a x).trans (h.2.2.2.2.2.2.1 a x), fun a x => (g.2.2.2.2.2.2.2 a x).trans (h.2.2.2.2.2.2.2 a x)⟩
theorem frLy_Po {τ τ' : px_TT} (f : frPo τ τ') : frLy τ τ' := ⟨fun a k _ h _ => f.1 a k (Or.inl h), fun a k h _ _ => f.1 a k (Or.inl (by omega)), fun a k _ _ _ _ => f.2.1 a k, fun a k _ _ => f.2.1 a k, f.2.2.1, fun a h => f.2.2.2.1 a (by omega) (by omega), fun a _ => f.2.2.2.2.1 a, fun a _ => f.2.2.2.2.2 a⟩
/-- a number of the layout's or the pool's own -/
theorem frLy_I {τ : px_TT} {a k : Nat} {v : Int32} (h : a = 1697 ∨ a = 1700 ∨ (1815 ≤ a ∧ (k = 15 ∨ k = 16))) : frLy τ (tI τ a k v) := ⟨fun x y _ _ _ => tI_ne (Or.inl (by omega)), fun x y _ _ _ => tI_ne (by omega), fun _ _ _ _ _ _ => rfl, fun _ _ _ _ => rfl, fun _ _ => rfl, fun _ _ => rfl, fun _ _ => rfl, fun _ _ => rfl⟩
theorem frLy_J {τ : px_TT} {a k : Nat} {v : Int64} (h : a = 1697 ∨ a = 1700 ∨ (152 ≤ a ∧ a < 1688 ∧ k = 11) ∨ (1815 ≤ a ∧ k = 14)) : frLy τ (tJ τ a k v) := ⟨fun _ _ _ _ _ => rfl, fun _ _ _ _ _ => rfl, fun x y _ _ _ _ => tJ_ne (by omega), fun x y _ _ => tJ_ne (by omega), fun _ _ => rfl, fun _ _ => rfl, fun _ _ => rfl, fun _ _ => rfl⟩
theorem frLy_vI {τ : px_TT} {a : Nat} {g : Nat → Int32} (h : 1698 ≤ a ∧ a ≤ 1709) : frLy τ (vI τ a g) := ⟨fun _ _ _ _ _ => rfl, fun _ _ _ _ _ => rfl, fun _ _ _ _ _ _ => rfl, fun _ _ _ _ => rfl, fun _ _ => rfl, fun x _ => eI_v_ne (by omega), fun _ _ => rfl, fun _ _ => rfl⟩
theorem eJ_v_ne {τ : px_TT} {a b : Nat} {g : Nat → Int64} (h : b ≠ a) : eJ (vJ τ a g) b = eJ τ b := u1_ne h
theorem eJ_v_eq {τ : px_TT} {a : Nat} {g : Nat → Int64} : eJ (vJ τ a g) a = g := (u1_eq : u1 τ.2.2.2.2.1 a g a = g)
theorem eN_v_ne {τ : px_TT} {a b : Nat} {g : Nat → Option Nat} (h : b ≠ a) : eN (vN τ a g) b = eN τ b := u1_ne h
theorem eN_v_eq {τ : px_TT} {a : Nat} {g : Nat → Option Nat} : eN (vN τ a g) a = g := (u1_eq : u1 τ.2.2.2.2.2 a g a = g)
theorem frLy_vJ {τ : px_TT} {a : Nat} {g : Nat → Int64} (h : 1704 ≤ a ∧ a ≤ 1707) : frLy τ (vJ τ a g) := ⟨fun _ _ _ _ _ => rfl, fun _ _ _ _ _ => rfl, fun _ _ _ _ _ _ => rfl, fun _ _ _ _ => rfl, fun _ _ => rfl, fun _ _ => rfl, fun x _ => eJ_v_ne (by omega), fun _ _ => rfl⟩
theorem frLy_vN {τ : px_TT} {g : Nat → Option Nat} : frLy τ (vN τ 1701 g) := ⟨fun _ _ _ _ _ => rfl, fun _ _ _ _ _ => rfl, fun _ _ _ _ _ _ => rfl, fun _ _ _ _ => rfl, fun _ _ => rfl, fun _ _ => rfl, fun _ _ => rfl, fun x h => eN_v_ne h⟩
section CLY
variable {sk : Nat → Nat × Nat × Nat} {L : Nat} {τ τ' : px_TT} {own : Nat → Nat × Nat} {fs : px_FS} {s : px_TK} {xs : px_NL} {ST rn : Nat → Bool} {gs : List (List Nat × Int64)} {ws : List (List Nat)} {C : Nat → Nat}
theorem GR_Ly (h : GR τ) (f : frLy τ τ') : GR τ' := GR_mv h (fun a k _ => f.2.2.2.2.1 a k) (fun a k ha _ => f.1 a k (by omega) (by omega) (by omega)) (f.2.2.2.2.2.2.2 9 (by decide)) (f.2.2.2.2.2.2.2 151 (by decide))
theorem SF_Ly (f : frLy τ τ') : SF τ τ' := ⟨fun a k h _ => f.1 a k (by omega) (by omega) (by omega), fun a k _ => f.2.2.2.2.1 a k, fun a h => f.2.2.2.2.2.1 a (by omega)⟩
theorem CB_Ly (h : CB τ C) (f : frLy τ τ') : CB τ' C := by
  unfold CB
  rw [f.2.2.2.2.2.1 8 (by decide)]
  exact h
theorem TKe_Ly (h : TKe sk L own τ fs s xs ST rn) (f : frLy τ τ') : TKe sk L own τ' fs s xs ST rn := by
  obtain ⟨a1, a2, a3, ⟨k1, k2, k3, k4⟩, a5, a6, a7⟩ := h
  have hT := BK_T (s := s) a5.1
  have hge : ∀ i, i < xs.length → 1815 ≤ pN τ 149 i := fun i hi => (k1 149 i _ (Or.inr (Or.inr rfl)) (CLm_at k2 (List.getElem?_eq_getElem hi)).2.1).1
  have eE : ∀ a, a ≠ 1701 → eN τ' a = eN τ a := f.2.2.2.2.2.2.2
  refine ⟨a1, GR_Ly a2 f, CF_mv a3 EX_refl (SF_Ly f), ⟨NP_fx k1 (fun A hA => eE A (by omega)), CLm_fx k2 EX_refl (fun i hi k hk => f.2.1 _ k (hge i hi) (by omega) (by omega)) (fun i x hx e => by rw [f.2.1 _ 13 (hge i (List.getElem?_eq_some_iff.mp hx).1) (by decide) (by decide)]; exact (k2.2.1 i x hx).2 e) (fun i hi k hk => f.2.2.2.1 _ k (hge i hi) (by omega)) (fun i hi => f.2.2.2.2.1 _ 6) ⟨f.2.2.2.2.1 148 0, f.1 148 2 (by decide) (by decide) (by decide)⟩ (f.1 147 15 (by decide) (by decide) (by decide)) (eE 149 (by decide)) (eE 1693 (by decide)), (f.1 147 14 (by decide) (by decide) (by decide)).trans k3, fun t q hq => ?_⟩, a5, a6, a7⟩
  have ht := (List.getElem?_eq_some_iff.mp hq).1
  obtain ⟨r1, r2, r3⟩ := k4 t q hq
  exact ⟨fun i hi => isPe_fx (r1 i hi) (fun k _ _ => f.1 _ k (by omega) (by omega) (by omega)) (by rw [f.1 _ 9 (by omega) (by omega) (by omega)]; exact (r1 i hi).2.2.2.2.1), RSy_fx r2 (eE 149 (by decide)) (fun k _ => by rw [eE 1692 (by decide)]), by rw [eE 1689 (by decide)]; exact r3⟩
theorem CN_Ly {N' A : Nat} (h : CN sk L τ N' A ws) (hn : NP sk L τ own) (f : frLy τ τ') (hN : N' = 140 ∨ N' = 143) (hA : A = 141 ∨ A = 144) : CN sk L τ' N' A ws := by
  obtain ⟨s1, s2, s3, s4, s5, s6, s7⟩ := h
  have eA : eN τ' A = eN τ A := f.2.2.2.2.2.2.2 A (by omega)
  refine ⟨s1, (f.2.2.2.2.1 N' 0).trans s2, s3, s4, s5, (f.1 N' 2 (by omega) (by omega) (by omega)).trans s6, fun i w hw => ?_⟩
  obtain ⟨z1, z2, z3, z4⟩ := s7 i w hw
  have hz := (hn A i _ (by omega) z2).1
  rw [eA]
  exact ⟨z1, z2, z3, (f.2.2.2.1 _ 0 hz (by decide)).trans z4.1, (f.2.2.2.1 _ 1 hz (by decide)).trans z4.2.1, (f.2.2.2.1 _ 2 hz (by decide)).trans z4.2.2.1, (f.2.1 _ 3 hz (by decide) (by decide)).trans z4.2.2.2⟩
theorem CG_Ly (h : CG sk L τ gs) (hn : NP sk L τ own) (f : frLy τ τ') : CG sk L τ' gs := by
  refine ⟨CN_Ly h.1 hn f (Or.inl rfl) (Or.inl rfl), fun i x hx => ?_⟩
  have hm : (gs.map Prod.fst)[i]? = some x.1 := by rw [List.getElem?_map, hx]; rfl
  have hp : eN τ 141 i = some ((eN τ 141 i).getD 0) := (h.1.2.2.2.2.2.2 i _ hm).2.1
  rw [f.2.2.2.2.2.2.2 141 (by decide), f.2.2.2.1 _ 7 (hn 141 i _ (Or.inl rfl) hp).1 (by decide)]
  exact h.2 i x hx
theorem CW_Ly (h : CW sk L τ ws) (hn : NP sk L τ own) (f : frLy τ τ') : CW sk L τ' ws := CN_Ly h hn f (Or.inr rfl) (Or.inr rfl)
/-- the class's order of parts -/
def COr (τ : px_TT) (ll : List Nat) : Prop := fI τ 1700 11 = nI ll.length ∧ ∀ (i x : Nat), ll[i]? = some x → eN τ 1701 i = some (152 + x)
end CLY
end
section
/-! gather of the class -/
/-- where a part's bytes stand in the class's store -/
def cAd (fs : px_FS) (tq : List Nat) (tb : Nat → Nat → Nat) (x : Nat) : Nat := bsO fs (tq.getD (x / 24) 0) + oP (tb (x / 24)) (x % 24)
def cgS (C : Nat → Nat) (ST : Nat → Bool) (tb : Nat → Nat → Nat) (cA : Nat → Nat) (g x : Nat) (p : List Nat × List Nat) : List Nat × List Nat := if ST x = true ∧ oG (tb (x / 24)) (x % 24) = g then (p.1 ++ [x], if sS tb x = true then itr (cl1 C (cA x)) 0 (zS tb x) p.2 else p.2) else p
def LIc (T : Nat) (tb : Nat → Nat → Nat) (u p : Nat) (l : List Nat) : Prop := l.Nodup ∧ ∀ y, y ∈ l → y < 24 * T ∧ ((∃ v, v < u ∧ oG (tb (y / 24)) (y % 24) = gOf v) ∨ (oG (tb (y / 24)) (y % 24) = gOf u ∧ y < p))
/-- the frame of gathering: names' cells stay -/
def frGa (τ τ' : px_TT) : Prop := frLy τ τ' ∧ ∀ a k, 1815 ≤ a → fI τ' a k = fI τ a k
theorem frGa_refl {τ : px_TT} : frGa τ τ := ⟨frLy_refl, fun _ _ _ => rfl⟩
theorem frGa_trans {τ τ1 τ2 : px_TT} (h : frGa τ τ1) (g : frGa τ1 τ2) : frGa τ τ2 := ⟨frLy_trans h.1 g.1, fun a k w => (g.2 a k w).trans (h.2 a k w)⟩
theorem frGa_Po {τ τ' : px_TT} (f : frPo τ τ') : frGa τ τ' := ⟨frLy_Po f, fun a k h => f.1 a k (Or.inl (by omega))⟩
theorem frGa_I {τ : px_TT} {a k : Nat} {v : Int32} (h : a = 1697 ∨ a = 1700) : frGa τ (tI τ a k v) := ⟨frLy_I (h.elim Or.inl (fun q => Or.inr (Or.inl q))), fun x y w => tI_ne (Or.inl (by omega))⟩
theorem frGa_J {τ : px_TT} {k : Nat} {v : Int64} : frGa τ (tJ τ 1697 k v) := ⟨frLy_J (Or.inl rfl), fun _ _ _ => rfl⟩
theorem frGa_vN {τ : px_TT} {g : Nat → Option Nat} : frGa τ (vN τ 1701 g) := ⟨frLy_vN, fun _ _ _ => rfl⟩
theorem gOf_inj : ∀ u, u < 6 → ∀ v, v < 6 → gOf u = gOf v → u = v := by decide
theorem gOf_l : ∀ u, u < 6 → [0, 1, 4, 5, 2, 3].getD u 0 = gOf u ∧ gOf u ≤ 5 := by decide
section CGA
variable {F : Nat} {c : px_CT} {sk : Nat → Nat × Nat × Nat} {L : Nat} {τ : px_TT} {own : Nat → Nat × Nat} {fs : px_FS} {s : px_TK} {xs : px_NL} {ST rn : Nat → Bool} {C : Nat → Nat}
/-- what stays is kept -/
def STk (fs : px_FS) (s : px_TK) (ST : Nat → Bool) : Prop := ∀ x, x < 24 * s.2.2.1.length → ST x = true → kpB (tB fs s.2.2.1 (x / 24)) (x % 24) = true ∧ s.2.1.1 x = false
theorem off_sum : off fs fs.length = (fs.map Prod.fst).sum := by
  unfold off
  rw [List.take_of_length_le (Nat.le_refl _)]
theorem TKe_pt (h : TKe sk L own τ fs s xs ST rn) (hk : STk fs s ST) {x : Nat} (hx : x < 24 * s.2.2.1.length) (hs : ST x = true) : fI τ (152 + x) 4 = nI (oG (tB fs s.2.2.1 (x / 24)) (x % 24)) ∧ fI τ (152 + x) 5 = nI (zS (tB fs s.2.2.1) x) ∧ fI τ (152 + x) 6 = nI (if oA (tB fs s.2.2.1 (x / 24)) (x % 24) < 1 then 1 else oA (tB fs s.2.2.1 (x / 24)) (x % 24)) ∧ fI τ (152 + x) 7 = nI (cAd fs s.2.2.1 (tB fs s.2.2.1) x) ∧ fI τ (152 + x) 10 = bI (sS (tB fs s.2.2.1) x) ∧ x % 24 < oS (tB fs s.2.2.1 (x / 24)) := by
  have ht : x / 24 < s.2.2.1.length := by omega
  obtain ⟨q, q1, q2, hD, hcb, he, hp, hRS, h89⟩ := TKe_ob h ht
  have hpx := hp (x % 24) (by omega)
  rw [show 24 * (x / 24) + x % 24 = x by omega] at hpx
  obtain ⟨k1, k2⟩ := hk x hx hs
  obtain ⟨_, _, a3, _, _, a6, a7⟩ := hpx
  rw [if_pos k1] at a3
  obtain ⟨b1, b2, b3⟩ := a6 k1
  have hq : s.2.2.1.getD (x / 24) 0 = q := by rw [List.getD_eq_getElem?_getD, q1]; rfl
  refine ⟨a3, b1, b2, ?_, ?_, of_decide_eq_true ((Bool.and_eq_true _ _).mp k1).1⟩
  · unfold cAd
    rw [hq]
    exact b3
  · rw [a7, k1, k2, Bool.not_false, Bool.and_true, Bool.true_and]
    rfl
theorem sS_cin (h : TKe sk L own τ fs s xs ST rn) {x : Nat} (hx : x / 24 < s.2.2.1.length) (hi : x % 24 < oS (tB fs s.2.2.1 (x / 24))) (hs : sS (tB fs s.2.2.1) x = true) : cAd fs s.2.2.1 (tB fs s.2.2.1) x + zS (tB fs s.2.2.1) x ≤ off fs fs.length := by
  obtain ⟨q, q1, q2, q3⟩ := obT_at h.2.2.2.2.1.1 hx
  obtain ⟨_, _, hcb, hss, _, hD⟩ := CF_ob h.2.2.1 q3
  have he := (hD rfl).2.2
  rw [hcb] at he
  have hs0 : oStr0 (tB fs s.2.2.1 (x / 24)) (x % 24) = true := by unfold sS oStr at hs; rw [Bool.and_eq_true] at hs; exact hs.1
  unfold oStr0 at hs0
  have hs1 := of_decide_eq_true hs0
  have h1 := oK_in (eObj_0 he).1.1 hi hs1.1 hs1.2.1
  have hq : s.2.2.1.getD (x / 24) 0 = q := by rw [List.getD_eq_getElem?_getD, q1]; rfl
  unfold cAd zS
  rw [hq]
  omega
theorem COr_fx {τ' : px_TT} {ll : List Nat} (h : COr τ ll) (e1 : fI τ' 1700 11 = fI τ 1700 11) (e2 : eN τ' 1701 = eN τ 1701) : COr τ' ll := ⟨e1.trans h.1, fun i x hx => by rw [e2]; exact h.2 i x hx⟩
theorem CPl_fx {τ' : px_TT} {l : List Nat} (h : CPl τ C l) (e1 : fI τ' 1697 3 = fI τ 1697 3) (e2 : fI τ' 1697 4 = fI τ 1697 4) (e3 : eI τ' 1698 = eI τ 1698) (e4 : eI τ' 1699 = eI τ 1699) : CPl τ' C l := ⟨e1.trans h.1, e2.trans h.2.1, h.2.2.1, fun i f hf => by rw [e3, e4]; exact h.2.2.2 i f hf⟩
theorem k_ga_24 {k14 : Nat → Int32 → px_H → Option (Unit × px_H)} {u : Nat} (hF : 65536 < F) (hc : KT c) (hu : u < 6) (hk : STk fs s ST) (hsum : off fs fs.length ≤ 32768) : ∀ (d i n : Nat) (τ : px_TT) (p : List Nat × List Nat), i + d = 24 * s.2.2.1.length → d < n → TKe sk L own τ fs s xs ST rn → CB τ C → COr τ p.1 → CPl τ C p.2 → LIc s.2.2.1.length (tB fs s.2.2.1) u i p.1 → ∃ τ', f_Layout_gather_24 F c k14 n 1700 (nI u) (nI i) (cH sk L τ) = k14 1700 (nI (u + 1)) (cH sk L τ') ∧ COr τ' (itr (cgS C ST (tB fs s.2.2.1) (cAd fs s.2.2.1 (tB fs s.2.2.1)) (gOf u)) i d p).1 ∧ CPl τ' C (itr (cgS C ST (tB fs s.2.2.1) (cAd fs s.2.2.1 (tB fs s.2.2.1)) (gOf u)) i d p).2 ∧ LIc s.2.2.1.length (tB fs s.2.2.1) u (24 * s.2.2.1.length) (itr (cgS C ST (tB fs s.2.2.1) (cAd fs s.2.2.1 (tB fs s.2.2.1)) (gOf u)) i d p).1 ∧ frGa τ τ' := by
  intro d
  induction d with
  | zero =>
    intro i n τ p hi hd h hb ho hp hl
    obtain ⟨n, rfl⟩ : ∃ x, n = x + 1 := ⟨n - 1, by omega⟩
    have hT := BK_T (s := s) h.2.2.2.2.1.1
    have ei : i = 24 * s.2.2.1.length := by omega
    refine ⟨τ, ?_, ho, hp, by rw [ei] at hl; exact hl, frGa_refl⟩
    unfold f_Layout_gather_24 f_Layout_gather_126
    rw [C2r0 (G1700 h.1) (GR_r (v := 147) h.2.1 (by decide)), bs, C3g14 (G147 h.1), bs, h.2.2.2.1.2.2.1, pk_mul, if_pos (nI_le (by omega) (by omega)), nI_add]
  | succ d ih =>
    intro i n τ p hi hd h hb ho hp hl
    obtain ⟨n, rfl⟩ : ∃ x, n = x + 1 := ⟨n - 1, by omega⟩
    have hS := h.1
    have hR := h.2.1
    have hT := BK_T (s := s) h.2.2.2.2.1.1
    have hiT : i < 24 * s.2.2.1.length := by omega
    have o := G1700 hS
    obtain ⟨p1, p2, p3, p4⟩ := TKe_part h hiT
    obtain ⟨hgo, hg5⟩ := gOf_l u hu
    rw [itr_s]
    have next : ∀ (τ1 : px_TT) (p1 : List Nat × List Nat), p1 = cgS C ST (tB fs s.2.2.1) (cAd fs s.2.2.1 (tB fs s.2.2.1)) (gOf u) i p → COr τ1 p1.1 → CPl τ1 C p1.2 → LIc s.2.2.1.length (tB fs s.2.2.1) u (i + 1) p1.1 → frGa τ τ1 → ∃ τ', f_Layout_gather_120 F c k14 (f_Layout_gather_24 F c k14 n) 1700 (nI u) (nI i) (cH sk L τ1) = k14 1700 (nI (u + 1)) (cH sk L τ') ∧ COr τ' (itr (cgS C ST (tB fs s.2.2.1) (cAd fs s.2.2.1 (tB fs s.2.2.1)) (gOf u)) (i + 1) d (cgS C ST (tB fs s.2.2.1) (cAd fs s.2.2.1 (tB fs s.2.2.1)) (gOf u) i p)).1 ∧ CPl τ' C (itr (cgS C ST (tB fs s.2.2.1) (cAd fs s.2.2.1 (tB fs s.2.2.1)) (gOf u)) (i + 1) d (cgS C ST (tB fs s.2.2.1) (cAd fs s.2.2.1 (tB fs s.2.2.1)) (gOf u) i p)).2 ∧ LIc s.2.2.1.length (tB fs s.2.2.1) u (24 * s.2.2.1.length) (itr (cgS C ST (tB fs s.2.2.1) (cAd fs s.2.2.1 (tB fs s.2.2.1)) (gOf u)) (i + 1) d (cgS C ST (tB fs s.2.2.1) (cAd fs s.2.2.1 (tB fs s.2.2.1)) (gOf u) i p)).1 ∧ frGa τ τ' := fun τ1 p1 e1 e2 e3 e4 e5 => by
      rw [← e1]
      obtain ⟨τ', j1, j2, j3, j4, j5⟩ := ih (i + 1) n τ1 p1 (by omega) (by omega) (TKe_Ly h e5.1) (CB_Ly hb e5.1) e2 e3 e4
      refine ⟨τ', ?_, j2, j3, j4, frGa_trans e5 j5⟩
      unfold f_Layout_gather_120
      rw [nI_add]
      exact j1
    have hl1 : LIc s.2.2.1.length (tB fs s.2.2.1) u (i + 1) p.1 := ⟨hl.1, fun y hy => ⟨(hl.2 y hy).1, (hl.2 y hy).2.imp id (fun q => ⟨q.1, by omega⟩)⟩⟩
    have no : ¬ (ST i = true ∧ oG (tB fs s.2.2.1 (i / 24)) (i % 24) = gOf u) → ∃ τ', f_Layout_gather_120 F c k14 (f_Layout_gather_24 F c k14 n) 1700 (nI u) (nI i) (cH sk L τ) = k14 1700 (nI (u + 1)) (cH sk L τ') ∧ COr τ' (itr (cgS C ST (tB fs s.2.2.1) (cAd fs s.2.2.1 (tB fs s.2.2.1)) (gOf u)) (i + 1) d (cgS C ST (tB fs s.2.2.1) (cAd fs s.2.2.1 (tB fs s.2.2.1)) (gOf u) i p)).1 ∧ CPl τ' C (itr (cgS C ST (tB fs s.2.2.1) (cAd fs s.2.2.1 (tB fs s.2.2.1)) (gOf u)) (i + 1) d (cgS C ST (tB fs s.2.2.1) (cAd fs s.2.2.1 (tB fs s.2.2.1)) (gOf u) i p)).2 ∧ LIc s.2.2.1.length (tB fs s.2.2.1) u (24 * s.2.2.1.length) (itr (cgS C ST (tB fs s.2.2.1) (cAd fs s.2.2.1 (tB fs s.2.2.1)) (gOf u)) (i + 1) d (cgS C ST (tB fs s.2.2.1) (cAd fs s.2.2.1 (tB fs s.2.2.1)) (gOf u) i p)).1 ∧ frGa τ τ' := fun q => next τ p (by unfold cgS; rw [if_neg q]) ho hp hl1 frGa_refl
    unfold f_Layout_gather_24
    rw [C2r0 o (GR_r (v := 147) hR (by decide)), bs, C3g14 (G147 hS), bs, h.2.2.2.1.2.2.1, pk_mul, if_neg (nI_ge (by omega) (by omega)), bs, c_o (G147 hS), bs, pk_rem (by omega) (by decide) (by decide), pk_div (by omega) (by decide) (by decide), k_part hS hR (by omega) (by omega), xb_mk, bs, show 24 * (i / 24) + i % 24 = i by omega, C8g9 p1, bs, p2]
    cases hST : ST i with
    | false =>
      rw [if_pos (show bI false = 0 from rfl)]
      exact no (fun q => by rw [hST] at q; exact nomatch q.1)
    | true =>
      obtain ⟨t4, t5, t6, t7, t10, tS⟩ := TKe_pt h hk hiT hST
      have hG5 : oG (tB fs s.2.2.1 (i / 24)) (i % 24) ≤ 5 := by unfold oG; repeat (first | omega | split)
      rw [if_neg (show ¬ bI true = 0 by decide), C8g4 p1, bs, t4, xkI_at hc.2.2.2.1.2 (by decide) hc.2.2.2.1.1 (by decide) (show u < [0, 1, 4, 5, 2, 3].length from hu), bs, hgo]
      by_cases cg : oG (tB fs s.2.2.1 (i / 24)) (i % 24) = gOf u
      · have hni : i ∉ p.1 := fun q => by
          obtain ⟨_, q2⟩ := hl.2 i q
          rcases q2 with ⟨v, v1, v2⟩ | ⟨_, v2⟩
          · have := gOf_inj u hu v (by omega) (cg.symm.trans v2)
            omega
          · omega
        have hnd : (p.1 ++ [i]).Nodup := List.nodup_append.mpr ⟨hl.1, List.Pairwise.cons (fun _ h => nomatch h) List.Pairwise.nil, fun a ha b' hb' q => by
          rw [List.mem_singleton] at hb'
          rw [q, hb'] at ha
          exact hni ha⟩
        have hln : (p.1 ++ [i]).length ≤ 1536 := nodup_le 0 1536 _ hnd (fun z hz => by
          rcases List.mem_append.mp hz with q | q
          · have := (hl.2 z q).1
            omega
          · rw [List.mem_singleton] at q
            omega)
        rw [List.length_append, List.length_singleton] at hln
        rw [if_pos (by rw [cg]), C2g11 o, bs, ho.1, C2r2 o (GR_r (v := 1701) hR (by decide)), bs, c_l (G1701 hS) (by decide), bs, if_neg (nI_ge (by omega) (by omega)), bs, bs, c_sO (G1701 hS) (by decide) (by decide) (show p.1.length < 1536 by omega) p1, bs]
        obtain ⟨τ1, hτ1⟩ : ∃ x, x = vN τ 1701 (va_up (eN τ 1701) p.1.length (some (152 + i))) := ⟨_, rfl⟩
        have e11 : fI τ1 1700 11 = nI p.1.length := by rw [hτ1]; exact ho.1
        rw [← hτ1, C2g11 o, bs, e11, nI_add, C2p11 o, bs]
        obtain ⟨τ2, hτ2⟩ : ∃ x, x = tI τ1 1700 11 (nI (p.1.length + 1)) := ⟨_, rfl⟩
        rw [← hτ2]
        have f2 : frGa τ τ2 := by
          rw [hτ2, hτ1]
          exact frGa_trans frGa_vN (frGa_I (Or.inr rfl))
        have ho2 : COr τ2 (p.1 ++ [i]) := by
          refine ⟨by rw [hτ2, tI_at, List.length_append, List.length_singleton], fun k y hy => ?_⟩
          have e1 : eN τ2 1701 = va_up (eN τ 1701) p.1.length (some (152 + i)) := by rw [hτ2, hτ1]; exact eN_v_eq
          rw [e1]
          by_cases ck : k < p.1.length
          · rw [List.getElem?_append_left ck] at hy
            rw [va_up_n (by omega)]
            exact ho.2 k y hy
          · have ek : k = p.1.length := by
              have := (List.getElem?_eq_some_iff.mp hy).1
              rw [List.length_append, List.length_singleton] at this
              omega
            rw [ek, List.getElem?_append_right (Nat.le_refl _), Nat.sub_self] at hy
            have hy : i = y := Option.some.inj hy
            rw [ek, va_up_a, hy]
        have hl2 : LIc s.2.2.1.length (tB fs s.2.2.1) u (i + 1) (p.1 ++ [i]) := ⟨hnd, fun y hy => by
          rcases List.mem_append.mp hy with q | q
          · exact hl1.2 y q
          · rw [List.mem_singleton] at q
            rw [q]
            exact ⟨hiT, Or.inr ⟨cg, Nat.lt_succ_self _⟩⟩⟩
        have hp2 : CPl τ2 C p.2 := CPl_fx hp (by rw [hτ2, tI_ne (Or.inl (by decide)), hτ1]; rfl) (by rw [hτ2, tI_ne (Or.inl (by decide)), hτ1]; rfl) (by rw [hτ2, hτ1]; rfl) (by rw [hτ2, hτ1]; rfl)
        have h2 := TKe_Ly h f2.1
        have t102 : fI τ2 (152 + i) 10 = bI (sS (tB fs s.2.2.1) i) := (TKe_pt h2 hk hiT hST).2.2.2.2.1
        rw [C8g10 p1, bs, t102]
        cases hsS : sS (tB fs s.2.2.1) i with
        | false =>
          rw [if_pos (show bI false = 0 from rfl)]
          exact next τ2 (p.1 ++ [i], p.2) (by unfold cgS; rw [if_pos ⟨hST, cg⟩, if_neg (by rw [hsS]; decide)]) ho2 hp2 hl2 f2
        | true =>
          obtain ⟨τ3, b1, b2, b3⟩ := k_collect (F := F) (c := c) hS hF (sS_cin h2 (by omega) tS hsS) hsum p1 (TKe_pt h2 hk hiT hST).2.2.2.1 (TKe_pt h2 hk hiT hST).2.1 h2.2.1 (CB_Ly hb f2.1) h2.2.2.1.2.2.2.1 hp2
          rw [if_neg (show ¬ bI true = 0 by decide), C2r1 o (GR_r (v := 1697) h2.2.1 (by decide)), bs, c_o (G1697 hS), bs, b1, xb_mk]
          exact next τ3 (p.1 ++ [i], itr (cl1 C (cAd fs s.2.2.1 (tB fs s.2.2.1) i)) 0 (zS (tB fs s.2.2.1) i) p.2) (by unfold cgS; rw [if_pos ⟨hST, cg⟩, if_pos hsS]) (COr_fx ho2 (b3.1 1700 11 (by omega)) (b3.2.2.2.2.2 1701)) b2 hl2 (frGa_trans f2 (frGa_Po b3))
      · rw [if_neg (show ¬ nI (oG (tB fs s.2.2.1 (i / 24)) (i % 24)) = nI (gOf u) from fun q => cg ((nI_eq (by omega) (by omega)).mp q))]
        exact no (fun q => cg q.2)
theorem k_ga_14 (hF : 65536 < F) (hc : KT c) (hk : STk fs s ST) (hsum : off fs fs.length ≤ 32768) : ∀ (d u n : Nat) (τ : px_TT) (p : List Nat × List Nat), u + d = 6 → d < n → TKe sk L own τ fs s xs ST rn → CB τ C → COr τ p.1 → CPl τ C p.2 → LIc s.2.2.1.length (tB fs s.2.2.1) u 0 p.1 → ∃ τ', f_Layout_gather_14 F c n 1700 (nI u) (cH sk L τ) = some ((), cH sk L τ') ∧ COr τ' (itr (fun u p => itr (cgS C ST (tB fs s.2.2.1) (cAd fs s.2.2.1 (tB fs s.2.2.1)) (gOf u)) 0 (24 * s.2.2.1.length) p) u d p).1 ∧ CPl τ' C (itr (fun u p => itr (cgS C ST (tB fs s.2.2.1) (cAd fs s.2.2.1 (tB fs s.2.2.1)) (gOf u)) 0 (24 * s.2.2.1.length) p) u d p).2 ∧ frGa τ τ' := by
  intro d
  induction d with
  | zero =>
    intro u n τ p hu hd h hb ho hp hl
    obtain ⟨n, rfl⟩ : ∃ x, n = x + 1 := ⟨n - 1, by omega⟩
    refine ⟨τ, ?_, ho, hp, frGa_refl⟩
    unfold f_Layout_gather_14 f_Layout_gather_132
    rw [xkl_at hc.2.2.2.1.2 (by decide), bs, show [0, 1, 4, 5, 2, 3].length = 6 from rfl, if_pos (show nI 6 ≤ nI u from nI_le (by omega) (by omega))]
  | succ d ih =>
    intro u n τ p hu hd h hb ho hp hl
    obtain ⟨n, rfl⟩ : ∃ x, n = x + 1 := ⟨n - 1, by omega⟩
    have hT := BK_T (s := s) h.2.2.2.2.1.1
    obtain ⟨τ1, a1, a2, a3, a4, a5⟩ := k_ga_24 (F := F) (c := c) (k14 := f_Layout_gather_14 F c n) hF hc (show u < 6 by omega) hk hsum (24 * s.2.2.1.length) 0 F τ p (by omega) (by omega) h hb ho hp hl
    obtain ⟨τ', j1, j2, j3, j4⟩ := ih (u + 1) n τ1 _ (by omega) (by omega) (TKe_Ly h a5.1) (CB_Ly hb a5.1) a2 a3 ⟨a4.1, fun y hy => ⟨(a4.2 y hy).1, Or.inl ((a4.2 y hy).2.elim (fun ⟨v, v1, v2⟩ => ⟨v, by omega, v2⟩) (fun q => ⟨u, Nat.lt_succ_self u, q.1⟩))⟩⟩
    refine ⟨τ', ?_, j2, j3, frGa_trans a5 j4⟩
    unfold f_Layout_gather_14
    rw [xkl_at hc.2.2.2.1.2 (by decide), bs, show [0, 1, 4, 5, 2, 3].length = 6 from rfl, if_neg (show ¬ nI 6 ≤ nI u from nI_ge (by omega) (by decide)), a1]
    exact j1
end CGA
end
section
/-! gather of the class: what is laid out is what the document lays out -/
def sC (C : Nat → Nat) (tb : Nat → Nat → Nat) (cA : Nat → Nat) (l : List Nat) (x : Nat) : List Nat := if sS tb x = true then itr (cl1 C (cA x)) 0 (zS tb x) l else l
def cg1 (ST : Nat → Bool) (tb : Nat → Nat → Nat) (g x : Nat) (l : List Nat) : List Nat := if ST x = true ∧ oG (tb (x / 24)) (x % 24) = g then l ++ [x] else l
section CGB
variable {C : Nat → Nat} {ST : Nat → Bool} {tb : Nat → Nat → Nat} {cA : Nat → Nat} {T : Nat} {sy : Nat → Nat → Bool}
theorem cgS_y {g x : Nat} {p : List Nat × List Nat} (h : ST x = true ∧ oG (tb (x / 24)) (x % 24) = g) : cgS C ST tb cA g x p = (p.1 ++ [x], sC C tb cA p.2 x) := by
  unfold cgS sC
  rw [if_pos h]
theorem cgS_n {g x : Nat} {p : List Nat × List Nat} (h : ¬ (ST x = true ∧ oG (tb (x / 24)) (x % 24) = g)) : cgS C ST tb cA g x p = p := by
  unfold cgS
  rw [if_neg h]
theorem fold_2 {f : List Nat → Nat → List Nat} {q r : List Nat} {i : Nat} (h : r = q.foldl f []) : f r i = (q ++ [i]).foldl f [] := by
  rw [List.foldl_append, ← h]
  rfl
theorem cgS_1 {g : Nat} : ∀ (d i : Nat) (p : List Nat × List Nat), (itr (cgS C ST tb cA g) i d p).1 = itr (cg1 ST tb g) i d p.1 := by
  intro d
  induction d with
  | zero => intro i p; rfl
  | succ d ih =>
    intro i p
    rw [itr_s, itr_s, ih]
    by_cases h : ST i = true ∧ oG (tb (i / 24)) (i % 24) = g
    · have e : cg1 ST tb g i p.1 = p.1 ++ [i] := by unfold cg1; rw [if_pos h]
      rw [cgS_y h, e]
    · have e : cg1 ST tb g i p.1 = p.1 := by unfold cg1; rw [if_neg h]
      rw [cgS_n h, e]
theorem cgS_2 {g : Nat} : ∀ (d i : Nat) (p : List Nat × List Nat), p.2 = p.1.foldl (sC C tb cA) [] → (itr (cgS C ST tb cA g) i d p).2 = (itr (cgS C ST tb cA g) i d p).1.foldl (sC C tb cA) [] := by
  intro d
  induction d with
  | zero => intro i p h; exact h
  | succ d ih =>
    intro i p h
    rw [itr_s]
    refine ih (i + 1) _ ?_
    by_cases hc : ST i = true ∧ oG (tb (i / 24)) (i % 24) = g
    · rw [cgS_y hc]
      exact fold_2 h
    · rw [cgS_n hc]; exact h
theorem itr_blk {α : Type} {h : Nat → α → α} : ∀ (T t : Nat) (l : α), itr h (24 * t) (24 * T) l = itr (fun t l => itr (fun i => h (24 * t + i)) 0 24 l) t T l := by
  have hs : ∀ (c a b : Nat) (l : α), itr h (a + b) c l = itr (fun i => h (a + i)) b c l := by
    intro c
    induction c with
    | zero => intro a b l; rfl
    | succ c ih => intro a b l; rw [itr_s, itr_s, ← ih a (b + 1)]; rfl
  intro T
  induction T with
  | zero => intro t l; rfl
  | succ T ih =>
    intro t l
    rw [itr_s, show 24 * (T + 1) = 24 + 24 * T by omega, itr_add, show 24 * t + 24 = 24 * (t + 1) by omega, ih, ← hs 24 (24 * t) 0]
    rfl
theorem itr_congr {α : Type} {g h : Nat → α → α} : ∀ (c i : Nat) (s : α), (∀ j, i ≤ j → j < i + c → ∀ s, g j s = h j s) → itr g i c s = itr h i c s := by
  intro c
  induction c with
  | zero => intro i s _; rfl
  | succ c ih =>
    intro i s e
    rw [itr_s, itr_s, e i (Nat.le_refl _) (by omega), ih (i + 1) _ (fun j h1 h2 s => e j (by omega) (by omega) s)]
theorem cg_lay {g t : Nat} (h1 : 1 ≤ oS (tb t)) (h24 : oS (tb t) ≤ 24) (hs : ∀ i, 1 ≤ i → i < oS (tb t) → ST (24 * t + i) = sy t i) (hno : ∀ i, i < 24 → (i = 0 ∨ oS (tb t) ≤ i) → ST (24 * t + i) = false) (l : List Nat) : itr (fun i => cg1 ST tb g (24 * t + i)) 0 24 l = lay2 tb sy g t l := by
  have hid : ∀ j, j < 24 → (j = 0 ∨ oS (tb t) ≤ j) → ∀ l, cg1 ST tb g (24 * t + j) l = l := fun j hj hz l => by
    unfold cg1
    rw [if_neg (fun q => by rw [hno j hj hz] at q; exact nomatch q.1)]
  unfold lay2
  rw [show (24 : Nat) = 1 + ((oS (tb t) - 1) + (24 - oS (tb t))) by omega, itr_add, itr_add]
  show itr (fun i => cg1 ST tb g ((1 + ((oS (tb t) - 1) + (24 - oS (tb t)))) * t + i)) (0 + 1 + (oS (tb t) - 1)) (24 - oS (tb t)) (itr (fun i => cg1 ST tb g ((1 + ((oS (tb t) - 1) + (24 - oS (tb t)))) * t + i)) (0 + 1) (oS (tb t) - 1) (cg1 ST tb g ((1 + ((oS (tb t) - 1) + (24 - oS (tb t)))) * t + 0) l)) = _
  rw [show 1 + ((oS (tb t) - 1) + (24 - oS (tb t))) = 24 by omega, hid 0 (by decide) (Or.inl rfl)]
  rw [itr_idr (24 - oS (tb t)) _ (fun j j1 j2 => hid j (by omega) (Or.inr (by omega)) _)]
  refine itr_congr _ _ _ (fun j j1 j2 s => ?_)
  unfold cg1 lay3
  rw [show (24 * t + j) / 24 = t by omega, show (24 * t + j) % 24 = j by omega, hs j (by omega) (by omega)]
theorem cg_layL (h1 : ∀ t, t < T → 1 ≤ oS (tb t) ∧ oS (tb t) ≤ 24) (hs : ∀ t, t < T → ∀ i, 1 ≤ i → i < oS (tb t) → ST (24 * t + i) = sy t i) (hno : ∀ t, t < T → ∀ i, i < 24 → (i = 0 ∨ oS (tb t) ≤ i) → ST (24 * t + i) = false) : (itr (fun u p => itr (cgS C ST tb cA (gOf u)) 0 (24 * T) p) 0 6 ([], [])).1 = layL T tb sy ∧ (itr (fun u p => itr (cgS C ST tb cA (gOf u)) 0 (24 * T) p) 0 6 ([], [])).2 = (layL T tb sy).foldl (sC C tb cA) [] := by
  have e1 : ∀ (d u : Nat) (p : List Nat × List Nat), (itr (fun u p => itr (cgS C ST tb cA (gOf u)) 0 (24 * T) p) u d p).1 = itr (lay1 T tb sy) u d p.1 := by
    intro d
    induction d with
    | zero => intro u p; rfl
    | succ d ih =>
      intro u p
      rw [itr_s, itr_s, ih, cgS_1]
      congr 1
      have := itr_blk (h := cg1 ST tb (gOf u)) T 0 p.1
      rw [Nat.mul_zero] at this
      rw [this]
      unfold lay1
      exact itr_congr _ _ _ (fun t _ ht l => cg_lay (h1 t (by omega)).1 (h1 t (by omega)).2 (hs t (by omega)) (hno t (by omega)) l)
  have e2 : ∀ (d u : Nat) (p : List Nat × List Nat), p.2 = p.1.foldl (sC C tb cA) [] → (itr (fun u p => itr (cgS C ST tb cA (gOf u)) 0 (24 * T) p) u d p).2 = (itr (fun u p => itr (cgS C ST tb cA (gOf u)) 0 (24 * T) p) u d p).1.foldl (sC C tb cA) [] := by
    intro d
    induction d with
    | zero => intro u p h; exact h
    | succ d ih => intro u p h; rw [itr_s]; exact ih _ _ (cgS_2 _ _ _ h)
  have a1 := e1 6 0 ([], [])
  have a2 := e2 6 0 ([], []) rfl
  refine ⟨a1, ?_⟩
  rw [a2, a1]
  rfl
end CGB
section CGC
variable {F : Nat} {c : px_CT} {sk : Nat → Nat × Nat × Nat} {L : Nat} {τ : px_TT} {own : Nat → Nat × Nat} {fs : px_FS} {s : px_TK} {xs : px_NL} {ST rn : Nat → Bool} {C : Nat → Nat} {rc : Bool} {R : Nat → Bool}
/-- what stays, as the document says it -/
def STr (fs : px_FS) (s : px_TK) (rc : Bool) (R ST : Nat → Bool) : Prop := ∀ x, x < 24 * s.2.2.1.length → ST x = (kpB (tB fs s.2.2.1 (x / 24)) (x % 24) && (!s.2.1.1 x && (!rc || R x)))
theorem STr_k (h : STr fs s rc R ST) : STk fs s ST := fun x hx hs => by
  rw [h x hx, Bool.and_eq_true, Bool.and_eq_true] at hs
  refine ⟨hs.1, ?_⟩
  cases e : s.2.1.1 x with
  | false => rfl
  | true => rw [e] at hs; exact nomatch hs.2.1
theorem k_gather (hF : 65536 < F) (hc : KT c) (hsum : off fs fs.length ≤ 32768) (h : TKe sk L own τ fs s xs ST rn) (hr : STr fs s rc R ST) (hb : CB τ C) : ∃ τ', f_Layout_gather F c 1700 (cH sk L τ) = some ((), cH sk L τ') ∧ COr τ' (layL s.2.2.1.length (tB fs s.2.2.1) (sta (tB fs s.2.2.1) s.2.1.1 rc R)) ∧ CPl τ' C ((layL s.2.2.1.length (tB fs s.2.2.1) (sta (tB fs s.2.2.1) s.2.1.1 rc R)).foldl (sC C (tB fs s.2.2.1) (cAd fs s.2.2.1 (tB fs s.2.2.1))) []) ∧ frGa τ τ' := by
  have hS := h.1
  have o := G1700 hS
  obtain ⟨τ1, hτ1⟩ : ∃ x, x = tI τ 1700 11 (nI 0) := ⟨_, rfl⟩
  obtain ⟨τ2, hτ2⟩ : ∃ x, x = tJ (tI (tI τ1 1697 3 (nI 0)) 1697 4 (nI 0)) 1697 5 (lN 0) := ⟨_, rfl⟩
  have f1 : frLy τ τ1 := by rw [hτ1]; exact frLy_I (Or.inr (Or.inl rfl))
  have f2 : frGa τ τ2 := frGa_trans (τ1 := τ1) (by rw [hτ1]; exact frGa_I (Or.inr rfl)) (by rw [hτ2]; exact frGa_trans (frGa_trans (frGa_I (Or.inl rfl)) (frGa_I (Or.inl rfl))) frGa_J)
  have ho : COr τ2 [] := ⟨by rw [hτ2]; show fI (tI (tI τ1 1697 3 (nI 0)) 1697 4 (nI 0)) 1700 11 = _; rw [tI_ne (Or.inl (by decide)), tI_ne (Or.inl (by decide)), hτ1, tI_at]; rfl, fun i x hx => by rw [List.getElem?_nil] at hx; cases hx⟩
  have hp : CPl τ2 C [] := ⟨by rw [hτ2]; show fI (tI (tI τ1 1697 3 (nI 0)) 1697 4 (nI 0)) 1697 3 = _; rw [tI_ne (Or.inr (by decide)), tI_at]; rfl, by rw [hτ2]; show fI (tI (tI τ1 1697 3 (nI 0)) 1697 4 (nI 0)) 1697 4 = _; rw [tI_at]; rfl, ⟨List.Pairwise.nil, fun f hf => nomatch hf⟩, fun i f hf => by rw [List.getElem?_nil] at hf; cases hf⟩
  obtain ⟨τ', j1, j2, j3, j4⟩ := k_ga_14 (F := F) (c := c) hF hc (STr_k hr) hsum 6 0 F τ2 ([], []) rfl (by omega) (TKe_Ly h f2.1) (CB_Ly hb f2.1) ho hp ⟨List.Pairwise.nil, fun y hy => nomatch hy⟩
  have hob : ∀ t, t < s.2.2.1.length → ∃ m, eObj (tB fs s.2.2.1 t) m = 0 := fun t ht => by
    obtain ⟨q, _, _, _, _, he, _⟩ := TKe_ob h ht
    exact ⟨_, he⟩
  obtain ⟨l1, l2⟩ := cg_layL (C := C) (ST := ST) (tb := tB fs s.2.2.1) (cA := cAd fs s.2.2.1 (tB fs s.2.2.1)) (T := s.2.2.1.length) (sy := sta (tB fs s.2.2.1) s.2.1.1 rc R) (fun t ht => by obtain ⟨m, hm⟩ := hob t ht; exact (eObj_0 hm).1.1.2.1) (fun t ht i h1 hi => by
    have h24 := (TKe_ys h t ht).2.1
    rw [hr _ (by omega), show (24 * t + i) / 24 = t by omega, show (24 * t + i) % 24 = i by omega]
    unfold kpB sta
    rw [decide_eq_true hi, Bool.true_and]) (fun t ht i hi hz => by
    rw [hr _ (by omega), show (24 * t + i) / 24 = t by omega, show (24 * t + i) % 24 = i by omega]
    have hk : kpB (tB fs s.2.2.1 t) i = false := by
      unfold kpB
      rcases hz with e | e
      · obtain ⟨m, hm⟩ := hob t ht
        have h0 := (eObj_g hm).1
        have : oK (tB fs s.2.2.1 t) i = false := by
          unfold oK
          rw [e]
          exact decide_eq_false (fun q => by rw [h0] at q; omega)
        rw [this, Bool.and_false]
      · rw [decide_eq_false (by omega), Bool.false_and]
    rw [hk, Bool.false_and])
  rw [l1] at j2
  rw [l2] at j3
  refine ⟨τ', ?_, j2, j3, frGa_trans f2 j4⟩
  unfold f_Layout_gather
  rw [C2p11 o, bs, ← hτ1, C2r1 o (GR_r (v := 1697) (GR_Ly h.2.1 f1) (by decide)), bs, c_o (G1697 hS), bs]
  unfold f_Pool_clear
  rw [C9p3 (G1697 hS), bs, C9p4 (G1697 hS), bs, C9p5 (G1697 hS), bs, ← hτ2, xb_mk]
  exact j1
end CGC
end
section
/-! the pool's strings, by their texts -/
def admT (l : List (List Nat)) (s : List Nat) : List (List Nat) := if l.any (fun w => sufB s w) = true then l else l.filter (fun w => !sufB w s) ++ [s]
def rfT (nd : List (List Nat)) (l : List (List Nat)) (s : List Nat) : List (List Nat) := if lst nd s (nd.length + 1) = 0 ∧ ¬ l.any (fun w => sufB s w) = true then l ++ [s] else l
/-- the strings of d bytes from j on -/
def stG (C : Nat → Nat) (A : Nat) : Nat → Nat → List (List Nat)
  | _, 0 => []
  | j, d + 1 => (if C (A + j) = 0 then [st C (frm C A j)] else []) ++ stG C A (j + 1) d
theorem stG_s {C : Nat → Nat} {A j d : Nat} : stG C A j (d + 1) = (if C (A + j) = 0 then [st C (frm C A j)] else []) ++ stG C A (j + 1) d := rfl
theorem stG_mem {C : Nat → Nat} {A : Nat} {w : List Nat} : ∀ {d j : Nat}, w ∈ stG C A j d ↔ ∃ i, j ≤ i ∧ i < j + d ∧ C (A + i) = 0 ∧ w = st C (frm C A i)
  | 0, j => ⟨fun q => (nomatch q), fun ⟨i, h1, h2, _⟩ => by omega⟩
  | d + 1, j => by
    rw [stG_s, List.mem_append, stG_mem]
    constructor
    · rintro (q | ⟨i, h1, h2, h3⟩)
      · split at q
        · rename_i h
          rw [List.mem_singleton] at q
          exact ⟨j, Nat.le_refl _, by omega, h, q⟩
        · exact nomatch q
      · exact ⟨i, by omega, by omega, h3⟩
    · rintro ⟨i, h1, h2, h3, h4⟩
      by_cases e : i = j
      · left
        rw [e] at h3 h4
        rw [if_pos h3, List.mem_singleton]
        exact h4
      · exact Or.inr ⟨i, by omega, by omega, h3, h4⟩
section CPT2
variable {C B : Nat → Nat} {A p : Nat}
theorem adm_T {l : List Nat} {f : Nat} : (adm C l f).map (st C) = admT (l.map (st C)) (st C f) := by
  unfold adm admT
  have e1 : (l.map (st C)).any (fun w => sufB (st C f) w) = l.any (fun w => sufB (st C f) (st C w)) := by rw [List.any_map]; rfl
  rw [e1]
  by_cases c : l.any (fun w => sufB (st C f) (st C w)) = true
  · rw [if_pos c, if_pos c]
  · rw [if_neg c, if_neg c, List.map_append, List.filter_map]
    rfl
theorem cl_T : ∀ (d j : Nat) (l : List Nat), (itr (cl1 C A) j d l).map (st C) = (stG C A j d).foldl admT (l.map (st C)) := by
  intro d
  induction d with
  | zero => intro j l; rfl
  | succ d ih =>
    intro j l
    rw [itr_s, ih, stG_s, List.foldl_append]
    congr 1
    by_cases c : C (A + j) = 0
    · have e : cl1 C A j l = adm C l (frm C A j) := by unfold cl1; rw [if_pos c]
      rw [e, adm_T, if_pos c]
      rfl
    · have e : cl1 C A j l = l := by unfold cl1; rw [if_neg c]
      rw [e, if_neg c]
      rfl
theorem peO_no {pf u : List Nat} : (peO B 0 pf u = none) ↔ ¬ (pf.map (st B)).any (fun w => sufB u w) = true := by
  rw [List.any_map, List.any_eq_true]
  constructor
  · rintro h ⟨f, h1, h2⟩
    have := (peO_some (B := B) (u := u) (l := pf) (off := 0)).mpr ⟨f, h1, h2⟩
    rw [h] at this
    cases this
  · intro h
    cases e : peO B 0 pf u with
    | none => rfl
    | some y =>
      obtain ⟨f, h1, h2⟩ := (peO_some (B := B) (u := u) (l := pf) (off := 0)).mp (by rw [e]; rfl)
      exact absurd ⟨f, h1, h2⟩ h
theorem fp_T {nd : List (List Nat)} : ∀ (d j : Nat) (pf : List Nat), (itr (fp1 B nd p) j d pf).map (st B) = (stG B p j d).foldl (rfT nd) (pf.map (st B)) := by
  intro d
  induction d with
  | zero => intro j l; rfl
  | succ d ih =>
    intro j pf
    rw [itr_s, ih, stG_s, List.foldl_append]
    congr 1
    by_cases c : B (p + j) = 0
    · rw [if_pos c]
      show _ = rfT nd (pf.map (st B)) (st B (frm B p j))
      unfold rfT
      by_cases c2 : lst nd (st B (frm B p j)) (nd.length + 1) = 0 ∧ peO B 0 pf (st B (frm B p j)) = none
      · have e : fp1 B nd p j pf = pf ++ [frm B p j] := by unfold fp1; rw [if_pos ⟨c, c2⟩]
        rw [e, if_pos ⟨c2.1, peO_no.mp c2.2⟩, List.map_append]
        rfl
      · have e : fp1 B nd p j pf = pf := by unfold fp1; rw [if_neg (fun q => c2 q.2)]
        rw [e, if_neg (fun q => c2 ⟨q.1, peO_no.mpr q.2⟩)]
    · have e : fp1 B nd p j pf = pf := by unfold fp1; rw [if_neg (fun q => c q.1)]
      rw [e, if_neg c]
      rfl
theorem frm_rel : ∀ (j : Nat), (∀ i, i < j → C (A + i) = B (p + i)) → ∃ k, k ≤ j ∧ frm C A j = A + k ∧ frm B p j = p + k
  | 0, _ => ⟨0, Nat.le_refl _, rfl, rfl⟩
  | j + 1, h => by
    rw [frm_s, frm_s, h j (by omega)]
    by_cases c : B (p + j) = 0
    · rw [if_pos c, if_pos c]; exact ⟨j + 1, Nat.le_refl _, rfl, rfl⟩
    · rw [if_neg c, if_neg c]
      obtain ⟨k, h1, h2, h3⟩ := frm_rel j (fun i hi => h i (by omega))
      exact ⟨k, by omega, h2, h3⟩
theorem isSt_text {f e f' e' : Nat} (h : isSt C f e) (h' : isSt B f' e') (hl : e - f = e' - f') (hb : ∀ k, f + k < e → C (f + k) = B (f' + k)) : st C f = st B f' := by
  have l1 := isSt_len h
  have l2 := isSt_len h'
  have h1 := h.2.1
  have h2 := h'.2.1
  refine List.ext_getElem? (fun d => ?_)
  by_cases hd : f + d < e
  · rw [isSt_get h hd, isSt_get h' (by omega), hb d hd]
  · rw [List.getElem?_eq_none (by omega), List.getElem?_eq_none (by omega)]
theorem stG_rel {Z : Nat} (hA : A + Z ≤ 65536) (hp : p + Z ≤ 65536) (hb : ∀ i, i < Z → C (A + i) = B (p + i)) : ∀ (d j : Nat), j + d = Z → stG C A j d = stG B p j d := by
  intro d
  induction d with
  | zero => intro j _; rfl
  | succ d ih =>
    intro j hj
    rw [stG_s, stG_s, ih (j + 1) (by omega), hb j (by omega)]
    congr 1
    by_cases c : B (p + j) = 0
    · rw [if_pos c, if_pos c]
      obtain ⟨k, k1, k2, k3⟩ := frm_rel (C := C) (B := B) (A := A) (p := p) j (fun i hi => hb i (by omega))
      have s1 := frm_st (C := C) (A := A) (j := j) (by omega) (by rw [hb j (by omega)]; exact c)
      have s2 := frm_st (C := B) (A := p) (j := j) (by omega) c
      rw [isSt_text s1 s2 (by rw [k2, k3]; omega) (fun i hi => by
        rw [k2] at hi ⊢
        rw [k3, Nat.add_assoc, Nat.add_assoc]
        exact hb (k + i) (by omega))]
    · rw [if_neg c, if_neg c]
end CPT2
/-! admitting one after the other, and taking the longest alone -/
section CPT3
variable {S : List (List Nat)} {nd : List (List Nat)}
theorem any_suf {l : List (List Nat)} {s : List Nat} : l.any (fun w => sufB s w) = true ↔ ∃ w, w ∈ l ∧ sufB s w = true := List.any_eq_true
def mxl (S : List (List Nat)) (s : List Nat) : Prop := ∀ w, w ∈ S → sufB s w = true → w = s
theorem pool_eq (hm : ∀ s, s ∈ S → (lst nd s (nd.length + 1) = 0 ↔ mxl S s)) : S.foldl admT [] = S.foldl (rfT nd) [] := by
  have key : ∀ (R : List (List Nat)) (l r : List (List Nat)), (∀ s, s ∈ R → s ∈ S) → (∀ s, s ∈ l → s ∈ S) → r = l.filter (fun s => decide (lst nd s (nd.length + 1) = 0)) → R.foldl (rfT nd) r = (R.foldl admT l).filter (fun s => decide (lst nd s (nd.length + 1) = 0)) ∧ (∀ s, s ∈ R.foldl admT l → s ∈ S) := by
    intro R
    induction R with
    | nil => intro l r _ hl hr; exact ⟨hr, hl⟩
    | cons s R ih =>
      intro l r hR hl hr
      have hsS := hR s (List.mem_cons_self ..)
      show R.foldl (rfT nd) (rfT nd r s) = (R.foldl admT (admT l s)).filter _ ∧ ∀ z, z ∈ R.foldl admT (admT l s) → z ∈ S
      have hl2 : ∀ z, z ∈ admT l s → z ∈ S := fun z hz => by
        unfold admT at hz
        split at hz
        · exact hl z hz
        · rcases List.mem_append.mp hz with q | q
          · exact hl z (List.mem_filter.mp q).1
          · rw [List.mem_singleton] at q; rw [q]; exact hsS
      refine ih (admT l s) (rfT nd r s) (fun z hz => hR z (List.mem_cons_of_mem _ hz)) hl2 ?_
      unfold admT rfT
      by_cases ca : l.any (fun w => sufB s w) = true
      · rw [if_pos ca]
        by_cases cm : lst nd s (nd.length + 1) = 0
        · obtain ⟨w, w1, w2⟩ := any_suf.mp ca
          have ew := (hm s hsS).mp cm w (hl w w1) w2
          rw [if_neg (fun q => q.2 (any_suf.mpr ⟨s, by rw [hr]; exact List.mem_filter.mpr ⟨by rw [← ew]; exact w1, decide_eq_true cm⟩, sufB_refl⟩))]
          exact hr
        · rw [if_neg (fun q => cm q.1)]; exact hr
      · rw [if_neg ca, List.filter_append]
        have e1 : (l.filter (fun w => !sufB w s)).filter (fun s => decide (lst nd s (nd.length + 1) = 0)) = r := by
          rw [hr, List.filter_filter]
          refine List.filter_congr (fun w hw => ?_)
          by_cases cm : lst nd w (nd.length + 1) = 0
          · rw [decide_eq_true cm, Bool.true_and]
            cases e : sufB w s with
            | false => rfl
            | true =>
              have ew := (hm w (hl w hw)).mp cm s hsS e
              exact absurd (any_suf.mpr ⟨w, hw, by rw [ew]; exact sufB_refl⟩) ca
          · rw [decide_eq_false cm, Bool.false_and]
        rw [e1]
        by_cases cm : lst nd s (nd.length + 1) = 0
        · rw [if_pos ⟨cm, fun q => by
            obtain ⟨w, w1, w2⟩ := any_suf.mp q
            rw [hr] at w1
            exact ca (any_suf.mpr ⟨w, (List.mem_filter.mp w1).1, w2⟩)⟩, List.filter_cons_of_pos (by exact decide_eq_true cm), List.filter_nil]
        · rw [if_neg (fun q => cm q.1), List.filter_cons_of_neg (by rw [decide_eq_false cm]; decide), List.filter_nil, List.append_nil]
  -- every string is an end of one that is left, and those left are no ends of one another
  have cov : ∀ (R l : List (List Nat)), (∀ a, a ∈ l → ∀ b, b ∈ l → sufB a b = true → b = a) → (∀ a, a ∈ R.foldl admT l → ∀ b, b ∈ R.foldl admT l → sufB a b = true → b = a) ∧ (∀ a, (a ∈ l ∨ a ∈ R) → ∃ w, w ∈ R.foldl admT l ∧ sufB a w = true) := by
    intro R
    induction R with
    | nil => intro l hl; exact ⟨hl, fun a ha => ⟨a, ha.elim id (fun q => nomatch q), sufB_refl⟩⟩
    | cons s R ih =>
      intro l hl
      have hl2 : ∀ a, a ∈ admT l s → ∀ b, b ∈ admT l s → sufB a b = true → b = a := by
        unfold admT
        by_cases ca : l.any (fun w => sufB s w) = true
        · rw [if_pos ca]; exact hl
        · rw [if_neg ca]
          intro a ha b hb hab
          rcases List.mem_append.mp ha with qa | qa
          · rcases List.mem_append.mp hb with qb | qb
            · exact hl a (List.mem_filter.mp qa).1 b (List.mem_filter.mp qb).1 hab
            · rw [List.mem_singleton] at qb
              rw [qb] at hab
              have := (List.mem_filter.mp qa).2
              rw [hab] at this
              cases this
          · rw [List.mem_singleton] at qa
            rcases List.mem_append.mp hb with qb | qb
            · rw [qa] at hab
              exact absurd (any_suf.mpr ⟨b, (List.mem_filter.mp qb).1, hab⟩) ca
            · rw [List.mem_singleton] at qb
              rw [qa, qb]
      obtain ⟨i1, i2⟩ := ih (admT l s) hl2
      refine ⟨i1, fun a ha => ?_⟩
      have up : ∀ z, z ∈ admT l s → sufB a z = true → ∃ w, w ∈ R.foldl admT (admT l s) ∧ sufB a w = true := fun z hz hz2 => by
        obtain ⟨w, w1, w2⟩ := i2 z (Or.inl hz)
        exact ⟨w, w1, sufB_tr hz2 w2⟩
      have hs : ∃ z, z ∈ admT l s ∧ sufB s z = true := by
        unfold admT
        by_cases ca : l.any (fun w => sufB s w) = true
        · rw [if_pos ca]; exact any_suf.mp ca
        · rw [if_neg ca]; exact ⟨s, List.mem_append.mpr (Or.inr (List.mem_singleton.mpr rfl)), sufB_refl⟩
      rcases ha with ha | ha
      · by_cases cz : a ∈ admT l s
        · exact up a cz sufB_refl
        · have has : sufB a s = true := by
            unfold admT at cz
            by_cases ca : l.any (fun w => sufB s w) = true
            · rw [if_pos ca] at cz; exact absurd ha cz
            · rw [if_neg ca] at cz
              cases e : sufB a s with
              | true => rfl
              | false => exact absurd (List.mem_append.mpr (Or.inl (List.mem_filter.mpr ⟨ha, by rw [e]; rfl⟩))) cz
          obtain ⟨z, z1, z2⟩ := hs
          exact up z z1 (sufB_tr has z2)
      · rcases List.mem_cons.mp ha with e | ha
        · rw [e] at up ⊢
          obtain ⟨z, z1, z2⟩ := hs
          exact up z z1 z2
        · exact i2 a (Or.inr ha)
  obtain ⟨k1, k2⟩ := key S [] [] (fun s h => h) (fun s h => nomatch h) rfl
  obtain ⟨c1, c2⟩ := cov S [] (fun a ha => nomatch ha)
  rw [k1]
  refine (List.filter_eq_self.mpr (fun s hs => decide_eq_true ((hm s (k2 s hs)).mpr (fun w hw hsw => ?_)))).symm
  obtain ⟨z, z1, z2⟩ := c2 w (Or.inr hw)
  have ez := c1 s hs z z1 (sufB_tr hsw z2)
  rw [ez] at z2
  have h1 := sufB_iff.mp hsw
  have h2 := sufB_iff.mp z2
  have e1 := h1.2
  rw [show w.length - s.length = 0 by omega, List.drop_zero] at e1
  exact e1.symm
end CPT3
end
section
/-! the class's pool is the document's -/
section CPT4
variable {C B : Nat → Nat} {tO : Nat → Nat} {tb : Nat → Nat → Nat} {cA : Nat → Nat}
def flG (g : Nat → List (List Nat)) : List Nat → List (List Nat)
  | [] => []
  | x :: l => g x ++ flG g l
theorem flG_s {g : Nat → List (List Nat)} {x : Nat} {l : List Nat} : flG g (x :: l) = g x ++ flG g l := rfl
theorem flG_mem {g : Nat → List (List Nat)} {w : List Nat} : ∀ {l : List Nat}, w ∈ flG g l ↔ ∃ x, x ∈ l ∧ w ∈ g x
  | [] => ⟨fun q => (nomatch q), fun ⟨x, q, _⟩ => nomatch q⟩
  | y :: l => by
    rw [flG_s, List.mem_append, flG_mem]
    constructor
    · rintro (q | ⟨x, h1, h2⟩)
      · exact ⟨y, List.mem_cons_self .., q⟩
      · exact ⟨x, List.mem_cons_of_mem _ h1, h2⟩
    · rintro ⟨x, h1, h2⟩
      rcases List.mem_cons.mp h1 with e | e
      · left; rw [← e]; exact h2
      · exact Or.inr ⟨x, e, h2⟩
theorem flG_fold {g : Nat → List (List Nat)} {k : List Nat → Nat → List Nat} {m : List Nat → List (List Nat)} {f : List (List Nat) → List Nat → List (List Nat)} (h : ∀ x l, m (k l x) = (g x).foldl f (m l)) : ∀ (ll l : List Nat), m (ll.foldl k l) = (flG g ll).foldl f (m l)
  | [], l => rfl
  | x :: ll, l => by
    rw [List.foldl_cons, flG_fold h ll, flG_s, List.foldl_append, h]
theorem flG_congr {g g' : Nat → List (List Nat)} : ∀ {l : List Nat}, (∀ x, x ∈ l → g x = g' x) → flG g l = flG g' l
  | [], _ => rfl
  | x :: l, h => by rw [flG_s, flG_s, h x (List.mem_cons_self ..), flG_congr (fun y hy => h y (List.mem_cons_of_mem _ hy))]
def ssB (B : Nat → Nat) (P : Nat → Nat) (tb : Nat → Nat → Nat) (x : Nat) : List (List Nat) := if sS tb x = true then stG B (P x) 0 (zS tb x) else []
theorem ssB_y {P : Nat → Nat} {x : Nat} (h : sS tb x = true) : ssB B P tb x = stG B (P x) 0 (zS tb x) := by unfold ssB; rw [if_pos h]
theorem ssB_n {P : Nat → Nat} {x : Nat} (h : ¬ sS tb x = true) : ssB B P tb x = [] := by unfold ssB; rw [if_neg h]
abbrev SSl (B : Nat → Nat) (P : Nat → Nat) (tb : Nat → Nat → Nat) (ll : List Nat) : List (List Nat) := flG (ssB B P tb) ll
theorem SSl_mem {P : Nat → Nat} {w : List Nat} {ll : List Nat} : w ∈ SSl B P tb ll ↔ ∃ x, x ∈ ll ∧ sS tb x = true ∧ w ∈ stG B (P x) 0 (zS tb x) := by
  rw [flG_mem]
  constructor
  · rintro ⟨x, h1, h2⟩
    by_cases c : sS tb x = true
    · rw [ssB_y c] at h2; exact ⟨x, h1, c, h2⟩
    · rw [ssB_n c] at h2; exact nomatch h2
  · rintro ⟨x, h1, h2, h3⟩
    exact ⟨x, h1, by rw [ssB_y h2]; exact h3⟩
theorem sC_T (ll l : List Nat) : (ll.foldl (sC C tb cA) l).map (st C) = (SSl C cA tb ll).foldl admT (l.map (st C)) := by
  refine flG_fold (g := ssB C cA tb) (k := sC C tb cA) (m := List.map (st C)) (f := admT) (fun x l => ?_) ll l
  by_cases c : sS tb x = true
  · have e : sC C tb cA l x = itr (cl1 C (cA x)) 0 (zS tb x) l := by unfold sC; rw [if_pos c]
    rw [e, ssB_y c]
    exact cl_T _ _ _
  · have e : sC C tb cA l x = l := by unfold sC; rw [if_neg c]
    rw [e, ssB_n c]
    rfl
theorem s1F_T {nd : List (List Nat)} (ll pf : List Nat) : (ll.foldl (s1F B nd tO tb) pf).map (st B) = (SSl B (pS tO tb) tb ll).foldl (rfT nd) (pf.map (st B)) := by
  refine flG_fold (g := ssB B (pS tO tb) tb) (k := s1F B nd tO tb) (m := List.map (st B)) (f := rfT nd) (fun x l => ?_) ll pf
  by_cases c : sS tb x = true
  · have e : s1F B nd tO tb l x = itr (fp1 B nd (pS tO tb x)) 0 (zS tb x) l := by unfold s1F; rw [if_pos c]
    rw [e, ssB_y c]
    exact fp_T _ _ _
  · have e : s1F B nd tO tb l x = l := by unfold s1F; rw [if_neg c]
    rw [e, ssB_n c]
    rfl
theorem SSl_rel {ll : List Nat} (h : ∀ x, x ∈ ll → sS tb x = true → cA x + zS tb x ≤ 65536 ∧ pS tO tb x + zS tb x ≤ 65536 ∧ ∀ i, i < zS tb x → C (cA x + i) = B (pS tO tb x + i)) : SSl C cA tb ll = SSl B (pS tO tb) tb ll := by
  refine flG_congr (fun x hx => ?_)
  by_cases c : sS tb x = true
  · rw [ssB_y c, ssB_y c]
    obtain ⟨h1, h2, h3⟩ := h x hx c
    exact stG_rel h1 h2 h3 _ 0 (Nat.zero_add _)
  · rw [ssB_n c, ssB_n c]
theorem mxl_nd {ll : List Nat} (hin : ∀ x, x ∈ ll → sS tb x = true → pS tO tb x + zS tb x ≤ 65536) (s : List Nat) (hs : s ∈ SSl B (pS tO tb) tb ll) : lst (nd0 B tO tb ll) s ((nd0 B tO tb ll).length + 1) = 0 ↔ mxl (SSl B (pS tO tb) tb ll) s := by
  rw [lst_0]
  constructor
  · intro hno w hw hsw
    obtain ⟨x, x1, x2, x3⟩ := SSl_mem.mp hw
    obtain ⟨j, _, j2, j3, j4⟩ := stG_mem.mp x3
    have hx := hin x x1 x2
    have hst := frm_st (C := B) (A := pS tO tb x) (j := j) (by omega) j3
    have hlen := isSt_len hst
    obtain ⟨l1, l2⟩ := sufB_iff.mp hsw
    by_cases el : s.length = w.length
    · rw [el, Nat.sub_self, List.drop_zero] at l2
      exact l2.symm
    · exfalso
      rw [j4] at l1 l2 el
      have hfl := hst.2.1
      obtain ⟨k, hk⟩ : ∃ k, k = (st B (frm B (pS tO tb x) j)).length - s.length - 1 := ⟨_, rfl⟩
      have hkl : frm B (pS tO tb x) j + k < pS tO tb x + j := by omega
      have hup := isSt_up (d := k) hst (by omega)
      have hn : B (frm B (pS tO tb x) j + k) ≠ 0 := hst.2.2.2 _ (by omega) hkl
      have e1 : st B (frm B (pS tO tb x) j + k) = B (frm B (pS tO tb x) j + k) :: s := by
        rw [st_n (by omega) hn, l2, isSt_drop hst (by omega), show frm B (pS tO tb x) j + ((st B (frm B (pS tO tb x) j)).length - s.length) = frm B (pS tO tb x) j + k + 1 by omega]
      have hmem := nd0_all (B := B) (tO := tO) (tb := tb) x2 ll [[]] x1 j (by omega) j3 (frm B (pS tO tb x) j + k) (by omega) hkl
      rw [e1] at hmem
      exact hno _ hmem
  · intro hmx c hc
    rcases nd0_char (B := B) (tO := tO) (tb := tb) (ll := ll) ll [[]] (fun x h => h) (fun w hw => Or.inl (List.mem_singleton.mp hw)) (c :: s) hc with e | ⟨x, j, y, x1, x2, x3, x4, x5, x6, x7⟩
    · cases e
    · have hx := hin x x1 x2
      have hst := frm_st (C := B) (A := pS tO tb x) (j := j) (by omega) x4
      have hsf := st_suf hst.1 (y - frm B (pS tO tb x) j) (frm B (pS tO tb x) j) (by omega) hst.2.2.2
      rw [show frm B (pS tO tb x) j + (y - frm B (pS tO tb x) j) = y by omega, ← x7] at hsf
      have hw : st B (frm B (pS tO tb x) j) ∈ SSl B (pS tO tb) tb ll := SSl_mem.mpr ⟨x, x1, x2, stG_mem.mpr ⟨j, Nat.zero_le _, by omega, x4, rfl⟩⟩
      have e := hmx _ hw (sufB_tr sufB_c hsf)
      rw [e] at hsf
      have := (sufB_iff.mp hsf).1
      rw [List.length_cons] at this
      omega
theorem pool_T {ll : List Nat} (h : ∀ x, x ∈ ll → sS tb x = true → cA x + zS tb x ≤ 65536 ∧ pS tO tb x + zS tb x ≤ 65536 ∧ ∀ i, i < zS tb x → C (cA x + i) = B (pS tO tb x + i)) : (ll.foldl (sC C tb cA) []).map (st C) = (pf0 B tO tb ll).map (st B) := by
  unfold pf0
  rw [sC_T, s1F_T, SSl_rel h]
  exact pool_eq (fun s hs => mxl_nd (fun x h1 h2 => (h x h1 h2).2.1) s hs)
/-- lengths, and the places of ends, by texts -/
theorem psz_T : ∀ {a b : List Nat}, a.map (st C) = b.map (st B) → psz C a = psz B b
  | [], [], _ => rfl
  | [], _ :: _, h => by cases h
  | _ :: _, [], h => by cases h
  | f :: a, g :: b, h => by
    rw [List.map_cons, List.map_cons] at h
    have h1 := (List.cons.inj h).1
    have h2 := psz_T (List.cons.inj h).2
    show (st C f).length + 1 + psz C a = (st B g).length + 1 + psz B b
    rw [h1, h2]
theorem peO_T {u : List Nat} : ∀ {a b : List Nat} {off : Nat}, a.map (st C) = b.map (st B) → peO C off a u = peO B off b u
  | [], [], _, _ => rfl
  | [], _ :: _, _, h => by cases h
  | _ :: _, [], _, h => by cases h
  | f :: a, g :: b, off, h => by
    rw [List.map_cons, List.map_cons] at h
    have h1 := (List.cons.inj h).1
    show (if sufB u (st C f) = true then some (off + ((st C f).length + 1)) else peO C (off + ((st C f).length + 1)) a u) = (if sufB u (st B g) = true then some (off + ((st B g).length + 1)) else peO B (off + ((st B g).length + 1)) b u)
    rw [h1, peO_T (List.cons.inj h).2]
end CPT4
end
section
/-! stayingTarget, isShort of the class -/
section CSH
variable {F : Nat} {c : px_CT} {sk : Nat → Nat × Nat × Nat} {L : Nat} {τ : px_TT} {own : Nat → Nat × Nat} {fs : px_FS} {s : px_TK} {xs : px_NL} {ST rn : Nat → Bool} {t i j : Nat}
theorem k_stayT (h : TKe sk L own τ fs s xs ST rn) (hF : 8 < F) (ht : t < s.2.2.1.length) (hi : i < oS (tB fs s.2.2.1 t)) : f_Link_stayingTarget F c 147 (nI t) (nI i) (cH sk L τ) = some (if isS (tB fs s.2.2.1 t) i = true ∧ ST (24 * t + oI (tB fs s.2.2.1 t) i) = true then some (152 + (24 * t + oI (tB fs s.2.2.1 t) i)) else none, cH sk L τ) := by
  obtain ⟨q, q1, q2, hD, hcb, he, hp, hRS, h89⟩ := TKe_ob h ht
  have hS := h.1
  have hR := h.2.1
  have o147 := G147 hS
  have oq := hD.1.1.1.1.1
  have hT := BK_T (s := s) h.2.2.2.2.1.1
  obtain ⟨hyo, hS24, hM64⟩ := TKe_ys h t ht
  unfold f_Link_stayingTarget f_Link_stayingTarget_38
  rw [c_o o147, bs, k_object h q1, xb_mk, bs, c_o oq, bs]
  by_cases cs : isS (tB fs s.2.2.1 t) i = true
  · obtain ⟨k1, k2, k3⟩ := k_sitesOf (F := F) (c := c) hD hF hcb hi cs
    have hoI := (eSit_0 he (isS_1 he cs) hi cs).1
    rw [k3, xb_mk, if_pos (nI_pos' (by omega)), c_o o147, bs, k_part hS hR (by omega) (by omega), xb_mk, bs, C8g9 (G_part hS (show 24 * t + oI (tB fs s.2.2.1 t) i < 1536 by omega)), bs, (hp _ (by omega)).2.2.2.2.1]
    cases e : ST (24 * t + oI (tB fs s.2.2.1 t) i) with
    | false => rw [if_pos (show bI false = 0 from rfl), if_neg (fun q => nomatch q.2)]
    | true => rw [if_neg (show ¬ bI true = 0 by decide), if_pos ⟨cs, rfl⟩]
  · rw [k_target0 hD hF hcb hi cs, xb_mk, if_neg (show ¬ 0 ≤ Int32.ofInt (-1) by decide), if_neg (fun q => cs q.1)]
theorem wd_42 {x : Nat} (h : wd x ≠ 16) : x ≤ 42 := by
  unfold wd at h
  split at h
  · omega
  · split at h
    · omega
    · split at h
      · omega
      · exact absurd rfl h
theorem isN_T {tb : Nat → Nat → Nat} {dr : Nat → Bool} {k : Nat} (hS : oS (tb t) ≤ 24) : isN tb t (wNo dr t (tb t) k) = (secT tb dr t (wNo dr t (tb t) k)).isSome := by
  have hdr : 0 < wNo dr t (tb t) k → wNo dr t (tb t) k < oS (tb t) → dr (24 * t + wNo dr t (tb t) k) = false := by
    unfold wNo
    by_cases c : 0 < yW (tb t) k ∧ yW (tb t) k < 24 ∧ dr (24 * t + yW (tb t) k) = true
    · rw [if_pos c]; intro h; omega
    · rw [if_neg c]
      intro h1 h2
      exact Bool.eq_false_iff.mpr (fun q => c ⟨h1, by omega, q⟩)
  generalize wNo dr t (tb t) k = w at *
  unfold isN secT
  by_cases c : 0 < w ∧ w < oS (tb t)
  · rw [decide_eq_true c, Bool.true_and]
    cases e : oK (tb t) w with
    | true => rw [if_pos ⟨c.1, c.2, rfl, hdr c.1 c.2⟩]; rfl
    | false => rw [if_neg (fun q => nomatch q.2.2.1)]; rfl
  · rw [decide_eq_false c, Bool.false_and, if_neg (fun q => c ⟨q.1, q.2.1⟩)]
    rfl
/-- inside: in a section, or a common -/
theorem inY_c (h : TKe sk L own τ fs s xs ST rn) (hW : WP s.2.2.1.length (tB fs s.2.2.1) s.2.1.1 xs) (ht : t < s.2.2.1.length) (hj : j < oM (tB fs s.2.2.1 t)) : (hsN (tB fs s.2.2.1 t) j = true → ∃ x, xs[plc (yT (tB fs s.2.2.1 t) j) (xs.map Prod.fst)]? = some x ∧ inY (tB fs s.2.2.1) s.2.1.1 xs t j = ((secY (tB fs s.2.2.1) s.2.1.1 xs t j).isSome || decide (fI τ (pN τ 149 (plc (yT (tB fs s.2.2.1 t) j) (xs.map Prod.fst))) 5 = nI 3))) ∧ (¬ hsN (tB fs s.2.2.1 t) j = true → inY (tB fs s.2.2.1) s.2.1.1 xs t j = (secY (tB fs s.2.2.1) s.2.1.1 xs t j).isSome) := by
  obtain ⟨q, q1, q2, hD, hcb, he, hp, hRS, h89⟩ := TKe_ob h ht
  have hys := TKe_ys h
  obtain ⟨y1, y2⟩ := hRS j (by have := (hys t ht).2.2; omega)
  constructor
  · intro ch
    obtain ⟨m1, m2, m3⟩ := of_decide_eq_true ch
    obtain ⟨x, hx, hxw, _⟩ := plc_ix (y2 ch)
    refine ⟨x, hx, ?_⟩
    unfold inY secY
    rw [if_neg (by omega), if_neg m3, if_neg (by omega), if_neg m3, hx]
    show inN (tB fs s.2.2.1) s.2.1.1 x.2 = ((secN (tB fs s.2.2.1) s.2.1.1 x.2).isSome || _)
    obtain ⟨P, hP⟩ : ∃ P, P = plc (yT (tB fs s.2.2.1 t) j) (xs.map Prod.fst) := ⟨_, rfl⟩
    rw [← hP] at hx ⊢
    obtain ⟨⟨c1, c2, d1, d2, d3, d4, d5⟩, _⟩ := h.2.2.2.1.2.1.2.1 P x hx
    have hb := hW.2.2.1 P x hx
    have h4 := h.2.2.2.2.2.1 P x hx
    unfold inN secN
    by_cases e2 : x.2.1 = 2
    · rw [if_pos e2, (d3 e2).1, decide_eq_true rfl, Bool.or_true]
    · rw [if_neg e2]
      unfold byP at hb
      cases e : x.2.2.2.2.1 with
      | none =>
        rw [e] at hb
        have hb : x.2.1 = 0 ∨ x.2.1 = 3 ∨ x.2.1 = 4 := hb
        show false = (false || _)
        rw [Bool.false_or, decide_eq_false]
        rcases hb with z | z | z
        · rw [d1 z]; decide
        · rw [(d4 (Or.inr z) e).1]; decide
        · rw [(d2 z).1]; decide
      | some qq =>
        rw [e] at hb
        obtain ⟨t', k'⟩ := qq
        have hb1 : t' < s.2.2.1.length := hb.1
        have hb5 : x.2.1 ≠ 0 := hb.2.2.2.2.1
        have hsf : sOf s.2.1.1 t' (tB fs s.2.2.1 t') k' = x.2.1 := hb.2.2.2.1
        have hs3 := sOf_3 (dr := s.2.1.1) (t := t') (b := tB fs s.2.2.1 t') (k := k')
        have c13 : x.2.1 = 1 ∨ x.2.1 = 3 := by omega
        show (decide (x.2.1 = 1 ∨ x.2.1 = 3) && isN (tB fs s.2.2.1) t' (wNo s.2.1.1 t' (tB fs s.2.2.1 t') k')) = ((if x.2.1 = 1 ∨ x.2.1 = 3 then secT (tB fs s.2.2.1) s.2.1.1 t' (wNo s.2.1.1 t' (tB fs s.2.2.1 t') k') else none).isSome || _)
        rw [decide_eq_true c13, Bool.true_and, if_pos c13, isN_T (hys t' hb1).2.1]
        have hne : ¬ fI τ (pN τ 149 P) 5 = nI 3 := by
          obtain ⟨_, e5, e6⟩ := d5 c13 t' k' e
          by_cases w : yW (tB fs s.2.2.1 t') k' = 65521
          · rw [e5 w]; decide
          · rw [(e6 w).1]; decide
        rw [decide_eq_false hne, Bool.or_false]
  · intro ch
    unfold inY secY
    by_cases z : j = 0
    · rw [if_pos z, if_pos z]; rfl
    · by_cases z2 : yB (tB fs s.2.2.1 t) j = 0
      · rw [if_neg z, if_neg z, if_pos z2, if_pos z2]
        exact isN_T (hys t ht).2.1
      · exact absurd (decide_eq_true (show 1 ≤ j ∧ j < oM (tB fs s.2.2.1 t) ∧ yB (tB fs s.2.2.1 t) j ≠ 0 from ⟨by omega, hj, z2⟩)) ch
end CSH
end
section
/-! isShort of the class, whole -/
section CSI
variable {F : Nat} {c : px_CT} {sk : Nat → Nat × Nat × Nat} {L : Nat} {τ : px_TT} {own : Nat → Nat × Nat} {fs : px_FS} {s : px_TK} {xs : px_NL} {ST rn : Nat → Bool} {t i j : Nat}
theorem k_is121 {q g base n p P0 X Y H sLv : Nat} {S : Nat → Int32} {b : Nat → Nat} (hD : cD sk L τ q g base n S) (hF : 8 < F) (hb : cb S base n = b) (hp : ob sk L 8 p) (h7 : fI τ p 7 = nI (base + P0)) (hH : H ≤ 42) (h2 : 2 ≤ sLv) (hn : P0 + sLv ≤ n) (hX : b (P0 + sLv - 2) = X) (hY : b (P0 + sLv - 1) = Y) : f_Link_isShort_121 F c (some p) (some q) (nI H) (lN sLv) (cH sk L τ) = some (bI (decide (skB X Y H ≠ 0)), cH sk L τ) := by
  have hO := hD.1.1.1.1
  have o := hO.1
  have hbn : base + n ≤ 65536 := hO.2.2.2.2.2.2.2.2.1
  have h5 := hO.2.2.2.2.2.2.1
  have n1 := k_num (F := F) (c := c) (x := P0 + sLv - 2) (k := 1) hO hF (by decide) (by omega)
  have n2 := k_num (F := F) (c := c) (x := P0 + sLv - 1) (k := 1) hO hF (by decide) (by omega)
  rw [nm_in (by omega), le_1, hb, hX] at n1
  rw [nm_in (by omega), le_1, hb, hY] at n2
  have lX : X < 256 := by rw [← hX, ← hb]; exact cb_lt _ _ _ _
  have lY : Y < 256 := by rw [← hY, ← hb]; exact cb_lt _ _ _ _
  unfold f_Link_isShort_121 f_Link_isShort_182 f_Link_isShort_211 f_Link_isShort_215 f_Link_isShort_216
  rw [bs, C8g7 hp, bs, h7, bs, C7g5 o, bs, h5, c_o o, bs, pk_sub (by omega), Nat.add_sub_cancel_left, lN_i, nI_add, pk_sub (by omega), n1, xb_mk, c_o o, bs, pk_sub (by omega), n2, xb_mk, lN_i, lN_i]
  have q1 : (nI X = nI 139) ↔ X = 139 := nI_eq (by omega) (by decide)
  have q2 : (nI X = nI 255) ↔ X = 255 := nI_eq (by omega) (by decide)
  have q3 : (nI Y = nI 21) ↔ Y = 21 := nI_eq (by omega) (by decide)
  have q4 : (nI Y = nI 37) ↔ Y = 37 := nI_eq (by omega) (by decide)
  have q5 : (nI H = nI 41) ↔ H = 41 := nI_eq (by omega) (by decide)
  have q6 := y199 Y lY
  have x1 := xz_1 (cH sk L τ)
  have x0 := xz_0 (cH sk L τ)
  simp only [q1, q2, q3, q4, q5, q6, x1, x0]
  unfold skB
  by_cases u1 : X = 139 <;> by_cases u2 : (Y ^^^ 5) &&& 199 = 0 <;> by_cases u3 : H = 41 <;> by_cases u4 : X = 255 <;> by_cases u5 : Y = 21 <;> by_cases u6 : Y = 37 <;> simp [u1, u2, u3, u4, u5, u6] <;> omega
theorem k_is44 {ph : px_H} {q p x H Lv Dv Y t : Nat} {nm pt : Option Nat} {V I : Bool} {fl1 fl2 : List Value} (oq : xo ph 7 q = some fl1) (o3 : xo ph 3 147 = some fl2) (hL : Lv < 2 ^ 62) (hDv : Dv < 2 ^ 64) (s4 : f_ObjectFile_num F c q (nI (x + 16)) (nI 8) ph = some (lN Dv, ph)) (s3 : f_ObjectFile_num F c q (nI (x + 12)) (nI 4) ph = some (lN Y, ph)) (kn : f_Link_nameOf F c 147 (nI t) (nI Y) ph = some (nm, ph)) (kp : f_Link_partOf F c 147 (nI t) (nI Y) ph = some (pt, ph)) (h1 : ∀ y, pt = some y → I = true) (h2 : pt = none → nm = none → I = false) (h3 : pt = none → ∀ n, nm = some n → ∃ v, xgI ph 5 5 n = some v ∧ I = decide (v = nI 3)) (h121 : 2 ≤ Lv → f_Link_isShort_121 F c (some p) (some q) (nI H) (lN Lv) ph = some (bI V, ph)) : f_Link_isShort_44 F c 147 (nI t) (nI x) (some p) (some q) (nI H) (lN Lv) ph = some (bI (decide (Dv = 18446744073709551612 ∧ 2 ≤ Lv ∧ I = true) && V), ph) := by
  unfold f_Link_isShort_44 f_Link_isShort_71 f_Link_isShort_119
  rw [bs, oq, bs, nI_add, s4, xb_mk]
  by_cases d1 : Dv = 18446744073709551612
  · rw [if_pos (show lN Dv = (-4 : Int64) by rw [d1]; decide)]
    by_cases d2 : 2 ≤ Lv
    · rw [if_pos (show (2 : Int64) ≤ lN Lv from (pk_lLE (a := 2) (by decide) (by omega)).mpr d2), oq, bs, nI_add, s3, xb_mk, o3, bs, lN_i, kn, xb_mk, o3, bs, kp, xb_mk]
      have hv := h121 d2
      cases pt with
      | some y =>
        rw [decide_eq_true (show Dv = 18446744073709551612 ∧ 2 ≤ Lv ∧ I = true from ⟨d1, d2, h1 y rfl⟩), Bool.true_and]
        exact hv
      | none =>
        cases nm with
        | none =>
          rw [decide_eq_false (show ¬ (Dv = 18446744073709551612 ∧ 2 ≤ Lv ∧ I = true) from fun w => by rw [h2 rfl rfl] at w; exact nomatch w.2.2), Bool.false_and]
          rfl
        | some n =>
          obtain ⟨v, v1, v2⟩ := h3 rfl n rfl
          show ((xgI ph 5 5 n).bind _) = _
          rw [v1, bs]
          by_cases c3 : v = nI 3
          · rw [decide_eq_true c3] at v2
            rw [if_pos c3, decide_eq_true (show Dv = 18446744073709551612 ∧ 2 ≤ Lv ∧ I = true from ⟨d1, d2, v2⟩), Bool.true_and]
            exact hv
          · rw [decide_eq_false c3] at v2
            rw [if_neg c3, decide_eq_false (show ¬ (Dv = 18446744073709551612 ∧ 2 ≤ Lv ∧ I = true) from fun w => by rw [v2] at w; exact nomatch w.2.2), Bool.false_and]
            rfl
    · rw [if_neg (show ¬ (2 : Int64) ≤ lN Lv from fun w => d2 ((pk_lLE (a := 2) (by decide) (by omega)).mp w)), decide_eq_false (show ¬ (Dv = 18446744073709551612 ∧ 2 ≤ Lv ∧ I = true) from fun w => d2 w.2.1), Bool.false_and]
      rfl
  · rw [if_neg (show ¬ lN Dv = (-4 : Int64) from fun w => d1 ((lEQ (b := 18446744073709551612) hDv (by decide)).mp (w.trans (by decide)))), decide_eq_false (show ¬ (Dv = 18446744073709551612 ∧ 2 ≤ Lv ∧ I = true) from fun w => d1 w.1), Bool.false_and]
    rfl
theorem sk_eq {A D E I : Prop} [Decidable A] [Decidable D] [Decidable E] [Decidable I] {v : Nat} (hA : A) : decide ((if A ∧ D ∧ E ∧ I then v else 0) ≠ 0) = (decide (D ∧ E ∧ I) && decide (v ≠ 0)) := by
  by_cases c : D ∧ E ∧ I
  · rw [if_pos ⟨hA, c⟩, decide_eq_true c, Bool.true_and]
  · rw [if_neg (fun w => c w.2), decide_eq_false c, Bool.false_and]
    exact decide_eq_false (fun w => w rfl)
theorem k_isShort (h : TKe sk L own τ fs s xs ST rn) (hk : STk fs s ST) (hF : 8 < F) (hW : WP s.2.2.1.length (tB fs s.2.2.1) s.2.1.1 xs) (ht : t < s.2.2.1.length) (hi : i < oS (tB fs s.2.2.1 t)) (hs : isS (tB fs s.2.2.1 t) i = true) (hst : ST (24 * t + oI (tB fs s.2.2.1 t) i) = true) (hj : j < sN (tB fs s.2.2.1 t) i) : f_Link_isShort F c 147 (nI t) (nI (sP (tB fs s.2.2.1 t) i j)) (some (152 + (24 * t + oI (tB fs s.2.2.1 t) i))) (cH sk L τ) = some (bI (decide (skY (tB fs s.2.2.1) s.2.1.1 xs t i j ≠ 0)), cH sk L τ) := by
  obtain ⟨q, q1, q2, hD, hcb, he, hp, hRS, h89⟩ := TKe_ob h ht
  have hS := h.1
  have hR := h.2.1
  have o147 := G147 hS
  have oq := hD.1.1.1.1.1
  have hT := BK_T (s := s) h.2.2.2.2.1.1
  obtain ⟨hyo, hS24, hM64⟩ := TKe_ys h t ht
  obtain ⟨hpl, hy⟩ := s_place he hi hs hj
  obtain ⟨s1, s2, s3, s4⟩ := k_site (F := F) (c := c) hD hF hcb hpl
  have hsit := eSit_0 he (isS_1 he hs) hi hs
  have hoI := hsit.1
  have hok := sOK_0w (hsit.2.2.2.2.2 j hj)
  have hH := wd_42 hok.1
  obtain ⟨y1, y2⟩ := hRS (sY (tB fs s.2.2.1 t) i j) (by omega)
  obtain ⟨ic1, ic2⟩ := inY_c h hW ht hy
  have hkp := hk _ (show 24 * t + oI (tB fs s.2.2.1 t) i < 24 * s.2.2.1.length by omega) hst
  rw [show (24 * t + oI (tB fs s.2.2.1 t) i) / 24 = t by omega, show (24 * t + oI (tB fs s.2.2.1 t) i) % 24 = oI (tB fs s.2.2.1 t) i by omega] at hkp
  have hp7 := ((hp (oI (tB fs s.2.2.1 t) i) (by omega)).2.2.2.2.2.1 hkp.1).2.2
  have opp := G_part hS (show 24 * t + oI (tB fs s.2.2.1 t) i < 1536 by omega)
  have hsD : sD (tB fs s.2.2.1 t) i j < 2 ^ 64 := by
    unfold sD
    rw [← hcb]
    exact le_lt (fun k => cb_lt _ _ _ k) _ 8
  have s1' : f_ObjectFile_num F c (10 + 2 * q) (nI (sP (tB fs s.2.2.1 t) i j)) (nI 8) (cH sk L τ) = some (lN (sL (tB fs s.2.2.1 t) i j), cH sk L τ) := by unfold sL; exact s1
  have s4' : f_ObjectFile_num F c (10 + 2 * q) (nI (sP (tB fs s.2.2.1 t) i j + 16)) (nI 8) (cH sk L τ) = some (lN (sD (tB fs s.2.2.1 t) i j), cH sk L τ) := by unfold sD; exact s4
  have hn : bsO fs q + tNf fs s.2.2.1 t ≤ 65536 := hD.1.1.1.1.2.2.2.2.2.2.2.2.1
  have hw1 := (eObj_0 he).1.1
  have kob := k_object (F := F) (c := c) h q1
  have kpt := k_partOf (F := F) (c := c) h hF hW ht hy
  have knm := k_nameOf (F := F) (c := c) (t := t) (j := sY (tB fs s.2.2.1 t) i j) hS hR (by omega) (by omega)
  rw [y1] at knm
  have e41 : (nI (sH (tB fs s.2.2.1 t) i j) = nI 41) ↔ sH (tB fs s.2.2.1 t) i j = 41 := nI_eq (by omega) (by decide)
  have e42 : (nI (sH (tB fs s.2.2.1 t) i j) = nI 42) ↔ sH (tB fs s.2.2.1 t) i j = 42 := nI_eq (by omega) (by decide)
  unfold f_Link_isShort f_Link_isShort_71
  rw [c_o o147, bs, kob, xb_mk, bs, c_o oq, bs, nI_add, s2, xb_mk, c_o oq, bs, s1', xb_mk, lN_i]
  by_cases cH0 : sH (tB fs s.2.2.1 t) i j = 41 ∨ sH (tB fs s.2.2.1 t) i j = 42
  · have hwd : wd (sH (tB fs s.2.2.1 t) i j) = 4 := by rcases cH0 with z | z <;> rw [z] <;> rfl
    have hrm := hok.2.2
    rw [hwd] at hrm
    obtain ⟨r1, r2⟩ := hrm.resolve_left (by decide)
    have hpz := hw1.2.2.2.1 (oI (tB fs s.2.2.1 t) i) hoI (by
      have hk2 := of_decide_eq_true ((Bool.and_eq_true _ _).mp hkp.1).2
      intro z
      rw [z] at hk2
      omega) r1
    have k44 := k_is44 (F := F) (c := c) (ph := cH sk L τ) (q := 10 + 2 * q) (p := 152 + (24 * t + oI (tB fs s.2.2.1 t) i)) (x := sP (tB fs s.2.2.1 t) i j) (H := sH (tB fs s.2.2.1 t) i j) (Lv := sL (tB fs s.2.2.1 t) i j) (Dv := sD (tB fs s.2.2.1 t) i j) (t := t) (I := inY (tB fs s.2.2.1) s.2.1.1 xs t (sY (tB fs s.2.2.1 t) i j)) (V := decide (skB (tB fs s.2.2.1 t (oP (tB fs s.2.2.1 t) (oI (tB fs s.2.2.1 t) i) + sL (tB fs s.2.2.1 t) i j - 2)) (tB fs s.2.2.1 t (oP (tB fs s.2.2.1 t) (oI (tB fs s.2.2.1 t) i) + sL (tB fs s.2.2.1 t) i j - 1)) (sH (tB fs s.2.2.1 t) i j) ≠ 0)) (c_o oq) (c_o o147) (by omega) hsD s4' s3 knm kpt (fun y hyy => by
      cases esc : secY (tB fs s.2.2.1) s.2.1.1 xs t (sY (tB fs s.2.2.1 t) i j) with
      | none => rw [esc] at hyy; cases hyy
      | some x =>
        by_cases ch : hsN (tB fs s.2.2.1 t) (sY (tB fs s.2.2.1 t) i j) = true
        · obtain ⟨_, _, e⟩ := ic1 ch
          rw [e, esc]; rfl
        · rw [ic2 ch, esc]; rfl) (fun hp0 hn0 => by
      cases esc : secY (tB fs s.2.2.1) s.2.1.1 xs t (sY (tB fs s.2.2.1 t) i j) with
      | some x => rw [esc] at hp0; cases hp0
      | none =>
        by_cases ch : hsN (tB fs s.2.2.1 t) (sY (tB fs s.2.2.1 t) i j) = true
        · unfold syN at hn0; rw [if_pos ch] at hn0; cases hn0
        · rw [ic2 ch, esc]; rfl) (fun hp0 n hn0 => by
      cases esc : secY (tB fs s.2.2.1) s.2.1.1 xs t (sY (tB fs s.2.2.1 t) i j) with
      | some x => rw [esc] at hp0; cases hp0
      | none =>
        by_cases ch : hsN (tB fs s.2.2.1 t) (sY (tB fs s.2.2.1 t) i j) = true
        · obtain ⟨x, hx, e⟩ := ic1 ch
          rw [esc, show (none : Option Nat).isSome = false from rfl, Bool.false_or] at e
          obtain ⟨z1, z2, z3, z4⟩ := CLm_at h.2.2.2.1.2.1 hx
          unfold syN at hn0
          rw [if_pos ch] at hn0
          have hn0 := Option.some.inj hn0
          rw [hn0] at z3 e
          exact ⟨_, C5g5 z3, e⟩
        · unfold syN at hn0; rw [if_neg ch] at hn0; cases hn0) (fun d2 => k_is121 (F := F) (c := c) (P0 := oP (tB fs s.2.2.1 t) (oI (tB fs s.2.2.1 t) i)) (H := sH (tB fs s.2.2.1 t) i j) (sLv := sL (tB fs s.2.2.1 t) i j) hD hF hcb opp hp7 hH d2 (by omega) rfl rfl)
    unfold skY
    rw [sk_eq cH0]
    rcases cH0 with z | z
    · rw [if_pos (e41.mpr z)]; exact k44
    · rw [if_neg (fun w => by have := e41.mp w; omega), if_pos (e42.mpr z)]; exact k44
  · unfold skY
    rw [if_neg (fun w => cH0 (Or.inl (e41.mp w))), if_neg (fun w => cH0 (Or.inr (e42.mp w))), if_neg (fun w => cH0 w.1), decide_eq_false (fun w => w rfl)]
    rfl
end CSI
end
